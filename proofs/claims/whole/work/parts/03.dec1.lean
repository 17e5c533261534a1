theorem dX4_remember_44 : decode cX4_remember 44 = .ok (.iaload, 1) := by decide +kernel
theorem dX4_remember_45 : decode cX4_remember 45 = .ok (.goto 4, 3) := by decide +kernel
theorem dX4_remember_48 : decode cX4_remember 48 = .ok (.iconst (-1), 1) := by decide +kernel
theorem dX4_remember_49 : decode cX4_remember 49 = .ok (.iastore, 1) := by decide +kernel
theorem dX4_remember_50 : decode cX4_remember 50 = .ok (.iinc 1 1, 3) := by decide +kernel
theorem dX4_remember_53 : decode cX4_remember 53 = .ok (.goto (-51), 3) := by decide +kernel
theorem dX4_remember_56 : decode cX4_remember 56 = .ok (.return_, 1) := by decide +kernel
theorem dX4_isOnSinceThen_0 : decode cX4_isOnSinceThen 0 = .ok (.iload_n 1, 1) := by decide +kernel
theorem dX4_isOnSinceThen_1 : decode cX4_isOnSinceThen 1 = .ok (.ifCond .lt 31, 3) := by decide +kernel
theorem dX4_isOnSinceThen_4 : decode cX4_isOnSinceThen 4 = .ok (.iload_n 1, 1) := by decide +kernel
theorem dX4_isOnSinceThen_5 : decode cX4_isOnSinceThen 5 = .ok (.aload_n 0, 1) := by decide +kernel
theorem dX4_isOnSinceThen_6 : decode cX4_isOnSinceThen 6 = .ok (.getfield 25, 3) := by decide +kernel
theorem dX4_isOnSinceThen_9 : decode cX4_isOnSinceThen 9 = .ok (.arraylength, 1) := by decide +kernel
theorem dX4_isOnSinceThen_10 : decode cX4_isOnSinceThen 10 = .ok (.if_icmp .ge 22, 3) := by decide +kernel
theorem dX4_isOnSinceThen_13 : decode cX4_isOnSinceThen 13 = .ok (.aload_n 0, 1) := by decide +kernel
theorem dX4_isOnSinceThen_14 : decode cX4_isOnSinceThen 14 = .ok (.getfield 25, 3) := by decide +kernel
theorem dX4_isOnSinceThen_17 : decode cX4_isOnSinceThen 17 = .ok (.iload_n 1, 1) := by decide +kernel
theorem dX4_isOnSinceThen_18 : decode cX4_isOnSinceThen 18 = .ok (.iaload, 1) := by decide +kernel
theorem dX4_isOnSinceThen_19 : decode cX4_isOnSinceThen 19 = .ok (.aload_n 0, 1) := by decide +kernel
theorem dX4_isOnSinceThen_20 : decode cX4_isOnSinceThen 20 = .ok (.getfield 22, 3) := by decide +kernel
theorem dX4_isOnSinceThen_23 : decode cX4_isOnSinceThen 23 = .ok (.iload_n 1, 1) := by decide +kernel
theorem dX4_isOnSinceThen_24 : decode cX4_isOnSinceThen 24 = .ok (.iaload, 1) := by decide +kernel
theorem dX4_isOnSinceThen_25 : decode cX4_isOnSinceThen 25 = .ok (.if_icmp .ne 7, 3) := by decide +kernel
theorem dX4_isOnSinceThen_28 : decode cX4_isOnSinceThen 28 = .ok (.iconst 1, 1) := by decide +kernel
theorem dX4_isOnSinceThen_29 : decode cX4_isOnSinceThen 29 = .ok (.goto 4, 3) := by decide +kernel
theorem dX4_isOnSinceThen_32 : decode cX4_isOnSinceThen 32 = .ok (.iconst 0, 1) := by decide +kernel
theorem dX4_isOnSinceThen_33 : decode cX4_isOnSinceThen 33 = .ok (.ireturn, 1) := by decide +kernel
theorem dX4_isOn_0 : decode cX4_isOn 0 = .ok (.iload_n 1, 1) := by decide +kernel
theorem dX4_isOn_1 : decode cX4_isOn 1 = .ok (.ifCond .lt 25, 3) := by decide +kernel
theorem dX4_isOn_4 : decode cX4_isOn 4 = .ok (.iload_n 1, 1) := by decide +kernel
theorem dX4_isOn_5 : decode cX4_isOn 5 = .ok (.aload_n 0, 1) := by decide +kernel
theorem dX4_isOn_6 : decode cX4_isOn 6 = .ok (.getfield 9, 3) := by decide +kernel
theorem dX4_isOn_9 : decode cX4_isOn 9 = .ok (.arraylength, 1) := by decide +kernel
theorem dX4_isOn_10 : decode cX4_isOn 10 = .ok (.if_icmp .ge 16, 3) := by decide +kernel
theorem dX4_isOn_13 : decode cX4_isOn 13 = .ok (.aload_n 0, 1) := by decide +kernel
theorem dX4_isOn_14 : decode cX4_isOn 14 = .ok (.getfield 9, 3) := by decide +kernel
theorem dX4_isOn_17 : decode cX4_isOn 17 = .ok (.iload_n 1, 1) := by decide +kernel
theorem dX4_isOn_18 : decode cX4_isOn 18 = .ok (.baload, 1) := by decide +kernel
theorem dX4_isOn_19 : decode cX4_isOn 19 = .ok (.ifCond .eq 7, 3) := by decide +kernel
theorem dX4_isOn_22 : decode cX4_isOn 22 = .ok (.iconst 1, 1) := by decide +kernel
theorem dX4_isOn_23 : decode cX4_isOn 23 = .ok (.goto 4, 3) := by decide +kernel
theorem dX4_isOn_26 : decode cX4_isOn 26 = .ok (.iconst 0, 1) := by decide +kernel
theorem dX4_isOn_27 : decode cX4_isOn 27 = .ok (.ireturn, 1) := by decide +kernel
theorem dX4_timeLeftOf_0 : decode cX4_timeLeftOf 0 = .ok (.iload_n 1, 1) := by decide +kernel
theorem dX4_timeLeftOf_1 : decode cX4_timeLeftOf 1 = .ok (.ifCond .lt 21, 3) := by decide +kernel
theorem dX4_timeLeftOf_4 : decode cX4_timeLeftOf 4 = .ok (.iload_n 1, 1) := by decide +kernel
theorem dX4_timeLeftOf_5 : decode cX4_timeLeftOf 5 = .ok (.aload_n 0, 1) := by decide +kernel
theorem dX4_timeLeftOf_6 : decode cX4_timeLeftOf 6 = .ok (.getfield 15, 3) := by decide +kernel
theorem dX4_timeLeftOf_9 : decode cX4_timeLeftOf 9 = .ok (.arraylength, 1) := by decide +kernel
theorem dX4_timeLeftOf_10 : decode cX4_timeLeftOf 10 = .ok (.if_icmp .ge 12, 3) := by decide +kernel
theorem dX4_timeLeftOf_13 : decode cX4_timeLeftOf 13 = .ok (.aload_n 0, 1) := by decide +kernel
theorem dX4_timeLeftOf_14 : decode cX4_timeLeftOf 14 = .ok (.getfield 15, 3) := by decide +kernel
theorem dX4_timeLeftOf_17 : decode cX4_timeLeftOf 17 = .ok (.iload_n 1, 1) := by decide +kernel
theorem dX4_timeLeftOf_18 : decode cX4_timeLeftOf 18 = .ok (.iaload, 1) := by decide +kernel
theorem dX4_timeLeftOf_19 : decode cX4_timeLeftOf 19 = .ok (.goto 4, 3) := by decide +kernel
theorem dX4_timeLeftOf_22 : decode cX4_timeLeftOf 22 = .ok (.iconst 0, 1) := by decide +kernel
theorem dX4_timeLeftOf_23 : decode cX4_timeLeftOf 23 = .ok (.ireturn, 1) := by decide +kernel
theorem dX4_offsOf_0 : decode cX4_offsOf 0 = .ok (.iload_n 1, 1) := by decide +kernel
theorem dX4_offsOf_1 : decode cX4_offsOf 1 = .ok (.ifCond .lt 21, 3) := by decide +kernel
theorem dX4_offsOf_4 : decode cX4_offsOf 4 = .ok (.iload_n 1, 1) := by decide +kernel
theorem dX4_offsOf_5 : decode cX4_offsOf 5 = .ok (.aload_n 0, 1) := by decide +kernel
theorem dX4_offsOf_6 : decode cX4_offsOf 6 = .ok (.getfield 22, 3) := by decide +kernel
theorem dX4_offsOf_9 : decode cX4_offsOf 9 = .ok (.arraylength, 1) := by decide +kernel
theorem dX4_offsOf_10 : decode cX4_offsOf 10 = .ok (.if_icmp .ge 12, 3) := by decide +kernel
theorem dX4_offsOf_13 : decode cX4_offsOf 13 = .ok (.aload_n 0, 1) := by decide +kernel
theorem dX4_offsOf_14 : decode cX4_offsOf 14 = .ok (.getfield 22, 3) := by decide +kernel
theorem dX4_offsOf_17 : decode cX4_offsOf 17 = .ok (.iload_n 1, 1) := by decide +kernel
theorem dX4_offsOf_18 : decode cX4_offsOf 18 = .ok (.iaload, 1) := by decide +kernel
theorem dX4_offsOf_19 : decode cX4_offsOf 19 = .ok (.goto 4, 3) := by decide +kernel
theorem dX4_offsOf_22 : decode cX4_offsOf 22 = .ok (.iconst 0, 1) := by decide +kernel
theorem dX4_offsOf_23 : decode cX4_offsOf 23 = .ok (.ireturn, 1) := by decide +kernel
theorem dX4_turnOn_0 : decode cX4_turnOn 0 = .ok (.aload_n 0, 1) := by decide +kernel
theorem dX4_turnOn_1 : decode cX4_turnOn 1 = .ok (.getfield 32, 3) := by decide +kernel
theorem dX4_turnOn_4 : decode cX4_turnOn 4 = .ok (.bipush 7, 2) := by decide +kernel
theorem dX4_turnOn_6 : decode cX4_turnOn 6 = .ok (.iload_n 1, 1) := by decide +kernel
theorem dX4_turnOn_7 : decode cX4_turnOn 7 = .ok (.invokevirtual 41, 3) := by decide +kernel
theorem dX4_turnOn_10 : decode cX4_turnOn 10 = .ok (.ifCond .eq 12, 3) := by decide +kernel
theorem dX4_turnOn_13 : decode cX4_turnOn 13 = .ok (.iload_n 1, 1) := by decide +kernel
theorem dX4_turnOn_14 : decode cX4_turnOn 14 = .ok (.aload_n 0, 1) := by decide +kernel
theorem dX4_turnOn_15 : decode cX4_turnOn 15 = .ok (.getfield 9, 3) := by decide +kernel
theorem dX4_turnOn_18 : decode cX4_turnOn 18 = .ok (.arraylength, 1) := by decide +kernel
theorem dX4_turnOn_19 : decode cX4_turnOn 19 = .ok (.if_icmp .lt 5, 3) := by decide +kernel
theorem dX4_turnOn_22 : decode cX4_turnOn 22 = .ok (.iconst 0, 1) := by decide +kernel
theorem dX4_turnOn_23 : decode cX4_turnOn 23 = .ok (.ireturn, 1) := by decide +kernel
theorem dX4_turnOn_24 : decode cX4_turnOn 24 = .ok (.aload_n 0, 1) := by decide +kernel
theorem dX4_turnOn_25 : decode cX4_turnOn 25 = .ok (.getfield 15, 3) := by decide +kernel
theorem dX4_turnOn_28 : decode cX4_turnOn 28 = .ok (.iload_n 1, 1) := by decide +kernel
theorem dX4_turnOn_29 : decode cX4_turnOn 29 = .ok (.aload_n 0, 1) := by decide +kernel
theorem dX4_turnOn_30 : decode cX4_turnOn 30 = .ok (.getfield 32, 3) := by decide +kernel
theorem dX4_turnOn_33 : decode cX4_turnOn 33 = .ok (.getfield 45, 3) := by decide +kernel
theorem dX4_turnOn_36 : decode cX4_turnOn 36 = .ok (.iload_n 1, 1) := by decide +kernel
theorem dX4_turnOn_37 : decode cX4_turnOn 37 = .ok (.iaload, 1) := by decide +kernel
theorem dX4_turnOn_38 : decode cX4_turnOn 38 = .ok (.iastore, 1) := by decide +kernel
theorem dX4_turnOn_39 : decode cX4_turnOn 39 = .ok (.aload_n 0, 1) := by decide +kernel
theorem dX4_turnOn_40 : decode cX4_turnOn 40 = .ok (.getfield 9, 3) := by decide +kernel
theorem dX4_turnOn_43 : decode cX4_turnOn 43 = .ok (.iload_n 1, 1) := by decide +kernel
theorem dX4_turnOn_44 : decode cX4_turnOn 44 = .ok (.baload, 1) := by decide +kernel
theorem dX4_turnOn_45 : decode cX4_turnOn 45 = .ok (.ifCond .eq 5, 3) := by decide +kernel
theorem dX4_turnOn_48 : decode cX4_turnOn 48 = .ok (.iconst 0, 1) := by decide +kernel
theorem dX4_turnOn_49 : decode cX4_turnOn 49 = .ok (.ireturn, 1) := by decide +kernel
theorem dX4_turnOn_50 : decode cX4_turnOn 50 = .ok (.aload_n 0, 1) := by decide +kernel
theorem dX4_turnOn_51 : decode cX4_turnOn 51 = .ok (.getfield 9, 3) := by decide +kernel
theorem dX4_turnOn_54 : decode cX4_turnOn 54 = .ok (.iload_n 1, 1) := by decide +kernel
theorem dX4_turnOn_55 : decode cX4_turnOn 55 = .ok (.iconst 1, 1) := by decide +kernel
theorem dX4_turnOn_56 : decode cX4_turnOn 56 = .ok (.bastore, 1) := by decide +kernel
theorem dX4_turnOn_57 : decode cX4_turnOn 57 = .ok (.aload_n 0, 1) := by decide +kernel
theorem dX4_turnOn_58 : decode cX4_turnOn 58 = .ok (.getfield 19, 3) := by decide +kernel
theorem dX4_turnOn_61 : decode cX4_turnOn 61 = .ok (.iload_n 1, 1) := by decide +kernel
theorem dX4_turnOn_62 : decode cX4_turnOn 62 = .ok (.dup2, 1) := by decide +kernel
theorem dX4_turnOn_63 : decode cX4_turnOn 63 = .ok (.iaload, 1) := by decide +kernel
theorem dX4_turnOn_64 : decode cX4_turnOn 64 = .ok (.iconst 1, 1) := by decide +kernel
theorem dX4_turnOn_65 : decode cX4_turnOn 65 = .ok (.iadd, 1) := by decide +kernel
theorem dX4_turnOn_66 : decode cX4_turnOn 66 = .ok (.iastore, 1) := by decide +kernel
theorem dX4_turnOn_67 : decode cX4_turnOn 67 = .ok (.aload_n 0, 1) := by decide +kernel
theorem dX4_turnOn_68 : decode cX4_turnOn 68 = .ok (.dup, 1) := by decide +kernel
theorem dX4_turnOn_69 : decode cX4_turnOn 69 = .ok (.getfield 28, 3) := by decide +kernel
theorem dX4_turnOn_72 : decode cX4_turnOn 72 = .ok (.aload_n 0, 1) := by decide +kernel
theorem dX4_turnOn_73 : decode cX4_turnOn 73 = .ok (.getfield 32, 3) := by decide +kernel
theorem dX4_turnOn_76 : decode cX4_turnOn 76 = .ok (.getfield 45, 3) := by decide +kernel
theorem dX4_turnOn_79 : decode cX4_turnOn 79 = .ok (.iload_n 1, 1) := by decide +kernel
theorem dX4_turnOn_80 : decode cX4_turnOn 80 = .ok (.iaload, 1) := by decide +kernel
theorem dX4_turnOn_81 : decode cX4_turnOn 81 = .ok (.ifCond .le 7, 3) := by decide +kernel
theorem dX4_turnOn_84 : decode cX4_turnOn 84 = .ok (.iconst 1, 1) := by decide +kernel
theorem dX4_turnOn_85 : decode cX4_turnOn 85 = .ok (.goto 4, 3) := by decide +kernel
theorem dX4_turnOn_88 : decode cX4_turnOn 88 = .ok (.iconst 0, 1) := by decide +kernel
theorem dX4_turnOn_89 : decode cX4_turnOn 89 = .ok (.iadd, 1) := by decide +kernel
theorem dX4_turnOn_90 : decode cX4_turnOn 90 = .ok (.putfield 28, 3) := by decide +kernel
theorem dX4_turnOn_93 : decode cX4_turnOn 93 = .ok (.iconst 1, 1) := by decide +kernel
theorem dX4_turnOn_94 : decode cX4_turnOn 94 = .ok (.ireturn, 1) := by decide +kernel
theorem dX4_turnOff_0 : decode cX4_turnOff 0 = .ok (.aload_n 0, 1) := by decide +kernel
theorem dX4_turnOff_1 : decode cX4_turnOff 1 = .ok (.iload_n 1, 1) := by decide +kernel
theorem dX4_turnOff_2 : decode cX4_turnOff 2 = .ok (.invokevirtual 48, 3) := by decide +kernel
theorem dX4_turnOff_5 : decode cX4_turnOff 5 = .ok (.ifCond .ne 5, 3) := by decide +kernel
theorem dX4_turnOff_8 : decode cX4_turnOff 8 = .ok (.iconst 0, 1) := by decide +kernel
theorem dX4_turnOff_9 : decode cX4_turnOff 9 = .ok (.ireturn, 1) := by decide +kernel
theorem dX4_turnOff_10 : decode cX4_turnOff 10 = .ok (.aload_n 0, 1) := by decide +kernel
theorem dX4_turnOff_11 : decode cX4_turnOff 11 = .ok (.getfield 9, 3) := by decide +kernel
theorem dX4_turnOff_14 : decode cX4_turnOff 14 = .ok (.iload_n 1, 1) := by decide +kernel
theorem dX4_turnOff_15 : decode cX4_turnOff 15 = .ok (.iconst 0, 1) := by decide +kernel
theorem dX4_turnOff_16 : decode cX4_turnOff 16 = .ok (.bastore, 1) := by decide +kernel
theorem dX4_turnOff_17 : decode cX4_turnOff 17 = .ok (.aload_n 0, 1) := by decide +kernel
theorem dX4_turnOff_18 : decode cX4_turnOff 18 = .ok (.getfield 15, 3) := by decide +kernel
theorem dX4_turnOff_21 : decode cX4_turnOff 21 = .ok (.iload_n 1, 1) := by decide +kernel
theorem dX4_turnOff_22 : decode cX4_turnOff 22 = .ok (.iconst 0, 1) := by decide +kernel
theorem dX4_turnOff_23 : decode cX4_turnOff 23 = .ok (.iastore, 1) := by decide +kernel
theorem dX4_turnOff_24 : decode cX4_turnOff 24 = .ok (.aload_n 0, 1) := by decide +kernel
theorem dX4_turnOff_25 : decode cX4_turnOff 25 = .ok (.getfield 22, 3) := by decide +kernel
theorem dX4_turnOff_28 : decode cX4_turnOff 28 = .ok (.iload_n 1, 1) := by decide +kernel
theorem dX4_turnOff_29 : decode cX4_turnOff 29 = .ok (.dup2, 1) := by decide +kernel
theorem dX4_turnOff_30 : decode cX4_turnOff 30 = .ok (.iaload, 1) := by decide +kernel
theorem dX4_turnOff_31 : decode cX4_turnOff 31 = .ok (.iconst 1, 1) := by decide +kernel
theorem dX4_turnOff_32 : decode cX4_turnOff 32 = .ok (.iadd, 1) := by decide +kernel
theorem dX4_turnOff_33 : decode cX4_turnOff 33 = .ok (.iastore, 1) := by decide +kernel
theorem dX4_turnOff_34 : decode cX4_turnOff 34 = .ok (.aload_n 0, 1) := by decide +kernel
theorem dX4_turnOff_35 : decode cX4_turnOff 35 = .ok (.dup, 1) := by decide +kernel
theorem dX4_turnOff_36 : decode cX4_turnOff 36 = .ok (.getfield 28, 3) := by decide +kernel
theorem dX4_turnOff_39 : decode cX4_turnOff 39 = .ok (.aload_n 0, 1) := by decide +kernel
theorem dX4_turnOff_40 : decode cX4_turnOff 40 = .ok (.getfield 32, 3) := by decide +kernel
theorem dX4_turnOff_43 : decode cX4_turnOff 43 = .ok (.getfield 45, 3) := by decide +kernel
theorem dX4_turnOff_46 : decode cX4_turnOff 46 = .ok (.iload_n 1, 1) := by decide +kernel
theorem dX4_turnOff_47 : decode cX4_turnOff 47 = .ok (.iaload, 1) := by decide +kernel
theorem dX4_turnOff_48 : decode cX4_turnOff 48 = .ok (.ifCond .le 7, 3) := by decide +kernel
theorem dX4_turnOff_51 : decode cX4_turnOff 51 = .ok (.iconst 1, 1) := by decide +kernel
theorem dX4_turnOff_52 : decode cX4_turnOff 52 = .ok (.goto 4, 3) := by decide +kernel
theorem dX4_turnOff_55 : decode cX4_turnOff 55 = .ok (.iconst 0, 1) := by decide +kernel
theorem dX4_turnOff_56 : decode cX4_turnOff 56 = .ok (.isub, 1) := by decide +kernel
theorem dX4_turnOff_57 : decode cX4_turnOff 57 = .ok (.putfield 28, 3) := by decide +kernel
theorem dX4_turnOff_60 : decode cX4_turnOff 60 = .ok (.iconst 1, 1) := by decide +kernel
theorem dX4_turnOff_61 : decode cX4_turnOff 61 = .ok (.ireturn, 1) := by decide +kernel
theorem dX4_turnOffAllButFirst_0 : decode cX4_turnOffAllButFirst 0 = .ok (.iconst 1, 1) := by decide +kernel
theorem dX4_turnOffAllButFirst_1 : decode cX4_turnOffAllButFirst 1 = .ok (.istore_n 1, 1) := by decide +kernel
theorem dX4_turnOffAllButFirst_2 : decode cX4_turnOffAllButFirst 2 = .ok (.iload_n 1, 1) := by decide +kernel
theorem dX4_turnOffAllButFirst_3 : decode cX4_turnOffAllButFirst 3 = .ok (.aload_n 0, 1) := by decide +kernel
theorem dX4_turnOffAllButFirst_4 : decode cX4_turnOffAllButFirst 4 = .ok (.getfield 32, 3) := by decide +kernel
theorem dX4_turnOffAllButFirst_7 : decode cX4_turnOffAllButFirst 7 = .ok (.getfield 36, 3) := by decide +kernel
theorem dX4_turnOffAllButFirst_10 : decode cX4_turnOffAllButFirst 10 = .ok (.bipush 7, 2) := by decide +kernel
theorem dX4_turnOffAllButFirst_12 : decode cX4_turnOffAllButFirst 12 = .ok (.iaload, 1) := by decide +kernel
theorem dX4_turnOffAllButFirst_13 : decode cX4_turnOffAllButFirst 13 = .ok (.if_icmp .ge 15, 3) := by decide +kernel
theorem dX4_turnOffAllButFirst_16 : decode cX4_turnOffAllButFirst 16 = .ok (.aload_n 0, 1) := by decide +kernel
theorem dX4_turnOffAllButFirst_17 : decode cX4_turnOffAllButFirst 17 = .ok (.iload_n 1, 1) := by decide +kernel
theorem dX4_turnOffAllButFirst_18 : decode cX4_turnOffAllButFirst 18 = .ok (.invokevirtual 52, 3) := by decide +kernel
theorem dX4_turnOffAllButFirst_21 : decode cX4_turnOffAllButFirst 21 = .ok (.pop, 1) := by decide +kernel
theorem dX4_turnOffAllButFirst_22 : decode cX4_turnOffAllButFirst 22 = .ok (.iinc 1 1, 3) := by decide +kernel
theorem dX4_turnOffAllButFirst_25 : decode cX4_turnOffAllButFirst 25 = .ok (.goto (-23), 3) := by decide +kernel
theorem dX4_turnOffAllButFirst_28 : decode cX4_turnOffAllButFirst 28 = .ok (.return_, 1) := by decide +kernel
theorem dX4_passTimeOf_0 : decode cX4_passTimeOf 0 = .ok (.aload_n 0, 1) := by decide +kernel
theorem dX4_passTimeOf_1 : decode cX4_passTimeOf 1 = .ok (.iload_n 1, 1) := by decide +kernel
theorem dX4_passTimeOf_2 : decode cX4_passTimeOf 2 = .ok (.invokevirtual 55, 3) := by decide +kernel
theorem dX4_passTimeOf_5 : decode cX4_passTimeOf 5 = .ok (.ifCond .eq 15, 3) := by decide +kernel
theorem dX4_passTimeOf_8 : decode cX4_passTimeOf 8 = .ok (.aload_n 0, 1) := by decide +kernel
theorem dX4_passTimeOf_9 : decode cX4_passTimeOf 9 = .ok (.getfield 32, 3) := by decide +kernel
theorem dX4_passTimeOf_12 : decode cX4_passTimeOf 12 = .ok (.getfield 45, 3) := by decide +kernel
theorem dX4_passTimeOf_15 : decode cX4_passTimeOf 15 = .ok (.iload_n 1, 1) := by decide +kernel
theorem dX4_passTimeOf_16 : decode cX4_passTimeOf 16 = .ok (.iaload, 1) := by decide +kernel
theorem dX4_passTimeOf_17 : decode cX4_passTimeOf 17 = .ok (.ifCond .gt 5, 3) := by decide +kernel
theorem dX4_passTimeOf_20 : decode cX4_passTimeOf 20 = .ok (.iconst 0, 1) := by decide +kernel
theorem dX4_passTimeOf_21 : decode cX4_passTimeOf 21 = .ok (.ireturn, 1) := by decide +kernel
theorem dX4_passTimeOf_22 : decode cX4_passTimeOf 22 = .ok (.aload_n 0, 1) := by decide +kernel
theorem dX4_passTimeOf_23 : decode cX4_passTimeOf 23 = .ok (.getfield 15, 3) := by decide +kernel
theorem dX4_passTimeOf_26 : decode cX4_passTimeOf 26 = .ok (.iload_n 1, 1) := by decide +kernel
theorem dX4_passTimeOf_27 : decode cX4_passTimeOf 27 = .ok (.dup2, 1) := by decide +kernel
theorem dX4_passTimeOf_28 : decode cX4_passTimeOf 28 = .ok (.iaload, 1) := by decide +kernel
theorem dX4_passTimeOf_29 : decode cX4_passTimeOf 29 = .ok (.iconst 1, 1) := by decide +kernel
theorem dX4_passTimeOf_30 : decode cX4_passTimeOf 30 = .ok (.isub, 1) := by decide +kernel
theorem dX4_passTimeOf_31 : decode cX4_passTimeOf 31 = .ok (.iastore, 1) := by decide +kernel
theorem dX4_passTimeOf_32 : decode cX4_passTimeOf 32 = .ok (.aload_n 0, 1) := by decide +kernel
theorem dX4_passTimeOf_33 : decode cX4_passTimeOf 33 = .ok (.getfield 15, 3) := by decide +kernel
theorem dX4_passTimeOf_36 : decode cX4_passTimeOf 36 = .ok (.iload_n 1, 1) := by decide +kernel
theorem dX4_passTimeOf_37 : decode cX4_passTimeOf 37 = .ok (.iaload, 1) := by decide +kernel
theorem dX4_passTimeOf_38 : decode cX4_passTimeOf 38 = .ok (.ifCond .gt 7, 3) := by decide +kernel
theorem dX4_passTimeOf_41 : decode cX4_passTimeOf 41 = .ok (.iconst 1, 1) := by decide +kernel
theorem dX4_passTimeOf_42 : decode cX4_passTimeOf 42 = .ok (.goto 4, 3) := by decide +kernel
theorem dX4_passTimeOf_45 : decode cX4_passTimeOf 45 = .ok (.iconst 0, 1) := by decide +kernel
theorem dX4_passTimeOf_46 : decode cX4_passTimeOf 46 = .ok (.ireturn, 1) := by decide +kernel
theorem dX5_init_0 : decode cX5_init 0 = .ok (.aload_n 0, 1) := by decide +kernel
theorem dX5_init_1 : decode cX5_init 1 = .ok (.invokespecial 3, 3) := by decide +kernel
theorem dX5_init_4 : decode cX5_init 4 = .ok (.aload_n 0, 1) := by decide +kernel
theorem dX5_init_5 : decode cX5_init 5 = .ok (.bipush 76, 2) := by decide +kernel
theorem dX5_init_7 : decode cX5_init 7 = .ok (.newarray .long, 2) := by decide +kernel
theorem dX5_init_9 : decode cX5_init 9 = .ok (.putfield 9, 3) := by decide +kernel
theorem dX5_init_12 : decode cX5_init 12 = .ok (.aload_n 0, 1) := by decide +kernel
theorem dX5_init_13 : decode cX5_init 13 = .ok (.bipush 76, 2) := by decide +kernel
theorem dX5_init_15 : decode cX5_init 15 = .ok (.newarray .int, 2) := by decide +kernel
theorem dX5_init_17 : decode cX5_init 17 = .ok (.putfield 15, 3) := by decide +kernel
theorem dX5_init_20 : decode cX5_init 20 = .ok (.aload_n 0, 1) := by decide +kernel
theorem dX5_init_21 : decode cX5_init 21 = .ok (.bipush 76, 2) := by decide +kernel
theorem dX5_init_23 : decode cX5_init 23 = .ok (.newarray .int, 2) := by decide +kernel
theorem dX5_init_25 : decode cX5_init 25 = .ok (.putfield 19, 3) := by decide +kernel
theorem dX5_init_28 : decode cX5_init 28 = .ok (.aload_n 0, 1) := by decide +kernel
theorem dX5_init_29 : decode cX5_init 29 = .ok (.iconst 0, 1) := by decide +kernel
theorem dX5_init_30 : decode cX5_init 30 = .ok (.putfield 22, 3) := by decide +kernel
theorem dX5_init_33 : decode cX5_init 33 = .ok (.aload_n 0, 1) := by decide +kernel
theorem dX5_init_34 : decode cX5_init 34 = .ok (.bipush 27, 2) := by decide +kernel
theorem dX5_init_36 : decode cX5_init 36 = .ok (.newarray .int, 2) := by decide +kernel
theorem dX5_init_38 : decode cX5_init 38 = .ok (.putfield 26, 3) := by decide +kernel
theorem dX5_init_41 : decode cX5_init 41 = .ok (.aload_n 0, 1) := by decide +kernel
theorem dX5_init_42 : decode cX5_init 42 = .ok (.bipush 12, 2) := by decide +kernel
theorem dX5_init_44 : decode cX5_init 44 = .ok (.newarray .long, 2) := by decide +kernel
theorem dX5_init_46 : decode cX5_init 46 = .ok (.putfield 29, 3) := by decide +kernel
theorem dX5_init_49 : decode cX5_init 49 = .ok (.aload_n 0, 1) := by decide +kernel
theorem dX5_init_50 : decode cX5_init 50 = .ok (.aload_n 1, 1) := by decide +kernel
theorem dX5_init_51 : decode cX5_init 51 = .ok (.putfield 32, 3) := by decide +kernel
theorem dX5_init_54 : decode cX5_init 54 = .ok (.return_, 1) := by decide +kernel
theorem dX5_check_0 : decode cX5_check 0 = .ok (.aload_n 0, 1) := by decide +kernel
theorem dX5_check_1 : decode cX5_check 1 = .ok (.iconst 0, 1) := by decide +kernel
theorem dX5_check_2 : decode cX5_check 2 = .ok (.putfield 22, 3) := by decide +kernel
theorem dX5_check_5 : decode cX5_check 5 = .ok (.iconst 0, 1) := by decide +kernel
theorem dX5_check_6 : decode cX5_check 6 = .ok (.istore_n 1, 1) := by decide +kernel
theorem dX5_check_7 : decode cX5_check 7 = .ok (.iload_n 1, 1) := by decide +kernel
theorem dX5_check_8 : decode cX5_check 8 = .ok (.aload_n 0, 1) := by decide +kernel
theorem dX5_check_9 : decode cX5_check 9 = .ok (.getfield 26, 3) := by decide +kernel
theorem dX5_check_12 : decode cX5_check 12 = .ok (.arraylength, 1) := by decide +kernel
theorem dX5_check_13 : decode cX5_check 13 = .ok (.if_icmp .ge 16, 3) := by decide +kernel
theorem dX5_check_16 : decode cX5_check 16 = .ok (.aload_n 0, 1) := by decide +kernel
theorem dX5_check_17 : decode cX5_check 17 = .ok (.getfield 26, 3) := by decide +kernel
theorem dX5_check_20 : decode cX5_check 20 = .ok (.iload_n 1, 1) := by decide +kernel
theorem dX5_check_21 : decode cX5_check 21 = .ok (.iconst 0, 1) := by decide +kernel
theorem dX5_check_22 : decode cX5_check 22 = .ok (.iastore, 1) := by decide +kernel
theorem dX5_check_23 : decode cX5_check 23 = .ok (.iinc 1 1, 3) := by decide +kernel
theorem dX5_check_26 : decode cX5_check 26 = .ok (.goto (-19), 3) := by decide +kernel
theorem dX5_check_29 : decode cX5_check 29 = .ok (.aload_n 0, 1) := by decide +kernel
theorem dX5_check_30 : decode cX5_check 30 = .ok (.invokevirtual 36, 3) := by decide +kernel
theorem dX5_check_33 : decode cX5_check 33 = .ok (.iconst 0, 1) := by decide +kernel
theorem dX5_check_34 : decode cX5_check 34 = .ok (.istore_n 1, 1) := by decide +kernel
theorem dX5_check_35 : decode cX5_check 35 = .ok (.iload_n 1, 1) := by decide +kernel
theorem dX5_check_36 : decode cX5_check 36 = .ok (.aload_n 0, 1) := by decide +kernel
theorem dX5_check_37 : decode cX5_check 37 = .ok (.getfield 32, 3) := by decide +kernel
theorem dX5_check_40 : decode cX5_check 40 = .ok (.invokevirtual 39, 3) := by decide +kernel
theorem dX5_check_43 : decode cX5_check 43 = .ok (.if_icmp .ge 90, 3) := by decide +kernel
theorem dX5_check_46 : decode cX5_check 46 = .ok (.aload_n 0, 1) := by decide +kernel
theorem dX5_check_47 : decode cX5_check 47 = .ok (.getfield 32, 3) := by decide +kernel
theorem dX5_check_50 : decode cX5_check 50 = .ok (.getfield 45, 3) := by decide +kernel
theorem dX5_check_53 : decode cX5_check 53 = .ok (.ifCond .ne 80, 3) := by decide +kernel
theorem dX5_check_56 : decode cX5_check 56 = .ok (.aload_n 0, 1) := by decide +kernel
theorem dX5_check_57 : decode cX5_check 57 = .ok (.getfield 32, 3) := by decide +kernel
theorem dX5_check_60 : decode cX5_check 60 = .ok (.iload_n 1, 1) := by decide +kernel
theorem dX5_check_61 : decode cX5_check 61 = .ok (.invokevirtual 48, 3) := by decide +kernel
theorem dX5_check_64 : decode cX5_check 64 = .ok (.bipush 27, 2) := by decide +kernel
theorem dX5_check_66 : decode cX5_check 66 = .ok (.if_icmp .ne 11, 3) := by decide +kernel
theorem dX5_check_69 : decode cX5_check 69 = .ok (.aload_n 0, 1) := by decide +kernel
theorem dX5_check_70 : decode cX5_check 70 = .ok (.iload_n 1, 1) := by decide +kernel
theorem dX5_check_71 : decode cX5_check 71 = .ok (.invokevirtual 52, 3) := by decide +kernel
theorem dX5_check_74 : decode cX5_check 74 = .ok (.goto 53, 3) := by decide +kernel
theorem dX5_check_77 : decode cX5_check 77 = .ok (.aload_n 0, 1) := by decide +kernel
theorem dX5_check_78 : decode cX5_check 78 = .ok (.getfield 32, 3) := by decide +kernel
theorem dX5_check_81 : decode cX5_check 81 = .ok (.iload_n 1, 1) := by decide +kernel
theorem dX5_check_82 : decode cX5_check 82 = .ok (.invokevirtual 48, 3) := by decide +kernel
theorem dX5_check_85 : decode cX5_check 85 = .ok (.bipush 28, 2) := by decide +kernel
theorem dX5_check_87 : decode cX5_check 87 = .ok (.if_icmp .ne 40, 3) := by decide +kernel
theorem dX5_check_90 : decode cX5_check 90 = .ok (.aload_n 0, 1) := by decide +kernel
theorem dX5_check_91 : decode cX5_check 91 = .ok (.getfield 32, 3) := by decide +kernel
theorem dX5_check_94 : decode cX5_check 94 = .ok (.iload_n 1, 1) := by decide +kernel
theorem dX5_check_95 : decode cX5_check 95 = .ok (.iconst 1, 1) := by decide +kernel
theorem dX5_check_96 : decode cX5_check 96 = .ok (.isub, 1) := by decide +kernel
theorem dX5_check_97 : decode cX5_check 97 = .ok (.invokevirtual 48, 3) := by decide +kernel
theorem dX5_check_100 : decode cX5_check 100 = .ok (.bipush 9, 2) := by decide +kernel
theorem dX5_check_102 : decode cX5_check 102 = .ok (.if_icmp .ne 25, 3) := by decide +kernel
theorem dX5_check_105 : decode cX5_check 105 = .ok (.aload_n 0, 1) := by decide +kernel
theorem dX5_check_106 : decode cX5_check 106 = .ok (.getfield 32, 3) := by decide +kernel
theorem dX5_check_109 : decode cX5_check 109 = .ok (.iload_n 1, 1) := by decide +kernel
theorem dX5_check_110 : decode cX5_check 110 = .ok (.invokevirtual 56, 3) := by decide +kernel
theorem dX5_check_113 : decode cX5_check 113 = .ok (.lconst 0, 1) := by decide +kernel
theorem dX5_check_114 : decode cX5_check 114 = .ok (.lcmp, 1) := by decide +kernel
theorem dX5_check_115 : decode cX5_check 115 = .ok (.ifCond .ne 12, 3) := by decide +kernel
theorem dX5_check_118 : decode cX5_check 118 = .ok (.aload_n 0, 1) := by decide +kernel
theorem dX5_check_119 : decode cX5_check 119 = .ok (.getfield 32, 3) := by decide +kernel
theorem dX5_check_122 : decode cX5_check 122 = .ok (.iconst 5, 1) := by decide +kernel
theorem dX5_check_123 : decode cX5_check 123 = .ok (.iload_n 1, 1) := by decide +kernel
theorem dX5_check_124 : decode cX5_check 124 = .ok (.invokevirtual 60, 3) := by decide +kernel
theorem dX5_check_127 : decode cX5_check 127 = .ok (.iinc 1 1, 3) := by decide +kernel
theorem dX5_check_130 : decode cX5_check 130 = .ok (.goto (-95), 3) := by decide +kernel
theorem dX5_check_133 : decode cX5_check 133 = .ok (.return_, 1) := by decide +kernel
theorem dX5_gatherModes_0 : decode cX5_gatherModes 0 = .ok (.iconst 0, 1) := by decide +kernel
theorem dX5_gatherModes_1 : decode cX5_gatherModes 1 = .ok (.istore_n 1, 1) := by decide +kernel
theorem dX5_gatherModes_2 : decode cX5_gatherModes 2 = .ok (.iconst 0, 1) := by decide +kernel
theorem dX5_gatherModes_3 : decode cX5_gatherModes 3 = .ok (.istore_n 2, 1) := by decide +kernel
theorem dX5_gatherModes_4 : decode cX5_gatherModes 4 = .ok (.iload_n 2, 1) := by decide +kernel
theorem dX5_gatherModes_5 : decode cX5_gatherModes 5 = .ok (.aload_n 0, 1) := by decide +kernel
theorem dX5_gatherModes_6 : decode cX5_gatherModes 6 = .ok (.getfield 32, 3) := by decide +kernel
theorem dX5_gatherModes_9 : decode cX5_gatherModes 9 = .ok (.invokevirtual 39, 3) := by decide +kernel
theorem dX5_gatherModes_12 : decode cX5_gatherModes 12 = .ok (.if_icmp .ge 50, 3) := by decide +kernel
theorem dX5_gatherModes_15 : decode cX5_gatherModes 15 = .ok (.iload_n 1, 1) := by decide +kernel
theorem dX5_gatherModes_16 : decode cX5_gatherModes 16 = .ok (.aload_n 0, 1) := by decide +kernel
theorem dX5_gatherModes_17 : decode cX5_gatherModes 17 = .ok (.getfield 29, 3) := by decide +kernel
theorem dX5_gatherModes_20 : decode cX5_gatherModes 20 = .ok (.arraylength, 1) := by decide +kernel
theorem dX5_gatherModes_21 : decode cX5_gatherModes 21 = .ok (.if_icmp .ge 41, 3) := by decide +kernel
theorem dX5_gatherModes_24 : decode cX5_gatherModes 24 = .ok (.aload_n 0, 1) := by decide +kernel
theorem dX5_gatherModes_25 : decode cX5_gatherModes 25 = .ok (.getfield 32, 3) := by decide +kernel
theorem dX5_gatherModes_28 : decode cX5_gatherModes 28 = .ok (.iload_n 2, 1) := by decide +kernel
theorem dX5_gatherModes_29 : decode cX5_gatherModes 29 = .ok (.invokevirtual 48, 3) := by decide +kernel
theorem dX5_gatherModes_32 : decode cX5_gatherModes 32 = .ok (.bipush 7, 2) := by decide +kernel
theorem dX5_gatherModes_34 : decode cX5_gatherModes 34 = .ok (.if_icmp .ne 22, 3) := by decide +kernel
theorem dX5_gatherModes_37 : decode cX5_gatherModes 37 = .ok (.aload_n 0, 1) := by decide +kernel
theorem dX5_gatherModes_38 : decode cX5_gatherModes 38 = .ok (.getfield 29, 3) := by decide +kernel
theorem dX5_gatherModes_41 : decode cX5_gatherModes 41 = .ok (.iload_n 1, 1) := by decide +kernel
theorem dX5_gatherModes_42 : decode cX5_gatherModes 42 = .ok (.aload_n 0, 1) := by decide +kernel
theorem dX5_gatherModes_43 : decode cX5_gatherModes 43 = .ok (.getfield 32, 3) := by decide +kernel
theorem dX5_gatherModes_46 : decode cX5_gatherModes 46 = .ok (.iload_n 2, 1) := by decide +kernel
theorem dX5_gatherModes_47 : decode cX5_gatherModes 47 = .ok (.iconst 1, 1) := by decide +kernel
theorem dX5_gatherModes_48 : decode cX5_gatherModes 48 = .ok (.iadd, 1) := by decide +kernel
theorem dX5_gatherModes_49 : decode cX5_gatherModes 49 = .ok (.invokevirtual 56, 3) := by decide +kernel
theorem dX5_gatherModes_52 : decode cX5_gatherModes 52 = .ok (.lastore, 1) := by decide +kernel
theorem dX5_gatherModes_53 : decode cX5_gatherModes 53 = .ok (.iinc 1 1, 3) := by decide +kernel
theorem dX5_gatherModes_56 : decode cX5_gatherModes 56 = .ok (.iinc 2 1, 3) := by decide +kernel
theorem dX5_gatherModes_59 : decode cX5_gatherModes 59 = .ok (.goto (-55), 3) := by decide +kernel
theorem dX5_gatherModes_62 : decode cX5_gatherModes 62 = .ok (.iload_n 1, 1) := by decide +kernel
theorem dX5_gatherModes_63 : decode cX5_gatherModes 63 = .ok (.istore_n 2, 1) := by decide +kernel
theorem dX5_gatherModes_64 : decode cX5_gatherModes 64 = .ok (.iload_n 2, 1) := by decide +kernel
theorem dX5_gatherModes_65 : decode cX5_gatherModes 65 = .ok (.aload_n 0, 1) := by decide +kernel
theorem dX5_gatherModes_66 : decode cX5_gatherModes 66 = .ok (.getfield 29, 3) := by decide +kernel
theorem dX5_gatherModes_69 : decode cX5_gatherModes 69 = .ok (.arraylength, 1) := by decide +kernel
theorem dX5_gatherModes_70 : decode cX5_gatherModes 70 = .ok (.if_icmp .ge 16, 3) := by decide +kernel
theorem dX5_gatherModes_73 : decode cX5_gatherModes 73 = .ok (.aload_n 0, 1) := by decide +kernel
theorem dX5_gatherModes_74 : decode cX5_gatherModes 74 = .ok (.getfield 29, 3) := by decide +kernel
theorem dX5_gatherModes_77 : decode cX5_gatherModes 77 = .ok (.iload_n 2, 1) := by decide +kernel
theorem dX5_gatherModes_78 : decode cX5_gatherModes 78 = .ok (.lconst 0, 1) := by decide +kernel
theorem dX5_gatherModes_79 : decode cX5_gatherModes 79 = .ok (.lastore, 1) := by decide +kernel
theorem dX5_gatherModes_80 : decode cX5_gatherModes 80 = .ok (.iinc 2 1, 3) := by decide +kernel
theorem dX5_gatherModes_83 : decode cX5_gatherModes 83 = .ok (.goto (-19), 3) := by decide +kernel
theorem dX5_gatherModes_86 : decode cX5_gatherModes 86 = .ok (.return_, 1) := by decide +kernel
theorem dX5_checkName_0 : decode cX5_checkName 0 = .ok (.aload_n 0, 1) := by decide +kernel
theorem dX5_checkName_1 : decode cX5_checkName 1 = .ok (.getfield 32, 3) := by decide +kernel
theorem dX5_checkName_4 : decode cX5_checkName 4 = .ok (.iload_n 1, 1) := by decide +kernel
theorem dX5_checkName_5 : decode cX5_checkName 5 = .ok (.iconst 1, 1) := by decide +kernel
theorem dX5_checkName_6 : decode cX5_checkName 6 = .ok (.isub, 1) := by decide +kernel
theorem dX5_checkName_7 : decode cX5_checkName 7 = .ok (.invokevirtual 48, 3) := by decide +kernel
theorem dX5_checkName_10 : decode cX5_checkName 10 = .ok (.istore_n 2, 1) := by decide +kernel
theorem dX5_checkName_11 : decode cX5_checkName 11 = .ok (.aload_n 0, 1) := by decide +kernel
theorem dX5_checkName_12 : decode cX5_checkName 12 = .ok (.getfield 32, 3) := by decide +kernel
theorem dX5_checkName_15 : decode cX5_checkName 15 = .ok (.iload_n 1, 1) := by decide +kernel
theorem dX5_checkName_16 : decode cX5_checkName 16 = .ok (.iconst 2, 1) := by decide +kernel
theorem dX5_checkName_17 : decode cX5_checkName 17 = .ok (.isub, 1) := by decide +kernel
theorem dX5_checkName_18 : decode cX5_checkName 18 = .ok (.invokevirtual 48, 3) := by decide +kernel
theorem dX5_checkName_21 : decode cX5_checkName 21 = .ok (.istore_n 3, 1) := by decide +kernel
theorem dX5_checkName_22 : decode cX5_checkName 22 = .ok (.iload_n 2, 1) := by decide +kernel
theorem dX5_checkName_23 : decode cX5_checkName 23 = .ok (.tableswitch 180 0 27 #[125, 125, 134, 125, 125, 143, 125, 125, 152, 180, 180, 152, 180, 180, 180, 180, 180, 180, 161, 180, 134, 180, 180, 180, 180, 180, 180, 171], 125) := by decide +kernel
theorem dX5_checkName_148 : decode cX5_checkName 148 = .ok (.aload_n 0, 1) := by decide +kernel
theorem dX5_checkName_149 : decode cX5_checkName 149 = .ok (.iload_n 1, 1) := by decide +kernel
theorem dX5_checkName_150 : decode cX5_checkName 150 = .ok (.iload_n 2, 1) := by decide +kernel
theorem dX5_checkName_151 : decode cX5_checkName 151 = .ok (.invokevirtual 64, 3) := by decide +kernel
theorem dX5_checkName_154 : decode cX5_checkName 154 = .ok (.goto 56, 3) := by decide +kernel
theorem dX5_checkName_157 : decode cX5_checkName 157 = .ok (.aload_n 0, 1) := by decide +kernel
theorem dX5_checkName_158 : decode cX5_checkName 158 = .ok (.iload_n 1, 1) := by decide +kernel
theorem dX5_checkName_159 : decode cX5_checkName 159 = .ok (.iconst 1, 1) := by decide +kernel
theorem dX5_checkName_160 : decode cX5_checkName 160 = .ok (.invokevirtual 67, 3) := by decide +kernel
theorem dX5_checkName_163 : decode cX5_checkName 163 = .ok (.goto 47, 3) := by decide +kernel
theorem dX5_checkName_166 : decode cX5_checkName 166 = .ok (.aload_n 0, 1) := by decide +kernel
theorem dX5_checkName_167 : decode cX5_checkName 167 = .ok (.iload_n 1, 1) := by decide +kernel
theorem dX5_checkName_168 : decode cX5_checkName 168 = .ok (.iconst 4, 1) := by decide +kernel
theorem dX5_checkName_169 : decode cX5_checkName 169 = .ok (.invokevirtual 67, 3) := by decide +kernel
theorem dX5_checkName_172 : decode cX5_checkName 172 = .ok (.goto 38, 3) := by decide +kernel
theorem dX5_checkName_175 : decode cX5_checkName 175 = .ok (.aload_n 0, 1) := by decide +kernel
theorem dX5_checkName_176 : decode cX5_checkName 176 = .ok (.iload_n 1, 1) := by decide +kernel
theorem dX5_checkName_177 : decode cX5_checkName 177 = .ok (.iconst 0, 1) := by decide +kernel
theorem dX5_checkName_178 : decode cX5_checkName 178 = .ok (.invokevirtual 67, 3) := by decide +kernel
theorem dX5_checkName_181 : decode cX5_checkName 181 = .ok (.goto 29, 3) := by decide +kernel
theorem dX5_checkName_184 : decode cX5_checkName 184 = .ok (.aload_n 0, 1) := by decide +kernel
theorem dX5_checkName_185 : decode cX5_checkName 185 = .ok (.iload_n 1, 1) := by decide +kernel
theorem dX5_checkName_186 : decode cX5_checkName 186 = .ok (.bipush 7, 2) := by decide +kernel
theorem dX5_checkName_188 : decode cX5_checkName 188 = .ok (.invokevirtual 67, 3) := by decide +kernel
theorem dX5_checkName_191 : decode cX5_checkName 191 = .ok (.goto 19, 3) := by decide +kernel
theorem dX5_checkName_194 : decode cX5_checkName 194 = .ok (.aload_n 0, 1) := by decide +kernel
theorem dX5_checkName_195 : decode cX5_checkName 195 = .ok (.iload_n 1, 1) := by decide +kernel
theorem dX5_checkName_196 : decode cX5_checkName 196 = .ok (.iload_n 3, 1) := by decide +kernel
theorem dX5_checkName_197 : decode cX5_checkName 197 = .ok (.invokevirtual 70, 3) := by decide +kernel
theorem dX5_checkName_200 : decode cX5_checkName 200 = .ok (.goto 10, 3) := by decide +kernel
theorem dX5_checkName_203 : decode cX5_checkName 203 = .ok (.aload_n 0, 1) := by decide +kernel
theorem dX5_checkName_204 : decode cX5_checkName 204 = .ok (.iload_n 1, 1) := by decide +kernel
theorem dX5_checkName_205 : decode cX5_checkName 205 = .ok (.bipush 6, 2) := by decide +kernel
theorem dX5_checkName_207 : decode cX5_checkName 207 = .ok (.invokevirtual 67, 3) := by decide +kernel
theorem dX5_checkName_210 : decode cX5_checkName 210 = .ok (.return_, 1) := by decide +kernel
theorem dX5_checkSecondName_0 : decode cX5_checkSecondName 0 = .ok (.iload_n 2, 1) := by decide +kernel
theorem dX5_checkSecondName_1 : decode cX5_checkSecondName 1 = .ok (.iconst 3, 1) := by decide +kernel
theorem dX5_checkSecondName_2 : decode cX5_checkSecondName 2 = .ok (.if_icmp .ne 12, 3) := by decide +kernel
theorem dX5_checkSecondName_5 : decode cX5_checkSecondName 5 = .ok (.aload_n 0, 1) := by decide +kernel
theorem dX5_checkSecondName_6 : decode cX5_checkSecondName 6 = .ok (.iload_n 1, 1) := by decide +kernel
theorem dX5_checkSecondName_7 : decode cX5_checkSecondName 7 = .ok (.iconst 0, 1) := by decide +kernel
theorem dX5_checkSecondName_8 : decode cX5_checkSecondName 8 = .ok (.invokevirtual 67, 3) := by decide +kernel
theorem dX5_checkSecondName_11 : decode cX5_checkSecondName 11 = .ok (.goto 69, 3) := by decide +kernel
theorem dX5_checkSecondName_14 : decode cX5_checkSecondName 14 = .ok (.iload_n 2, 1) := by decide +kernel
theorem dX5_checkSecondName_15 : decode cX5_checkSecondName 15 = .ok (.iconst 2, 1) := by decide +kernel
theorem dX5_checkSecondName_16 : decode cX5_checkSecondName 16 = .ok (.if_icmp .eq 8, 3) := by decide +kernel
theorem dX5_checkSecondName_19 : decode cX5_checkSecondName 19 = .ok (.iload_n 2, 1) := by decide +kernel
theorem dX5_checkSecondName_20 : decode cX5_checkSecondName 20 = .ok (.iconst 5, 1) := by decide +kernel
theorem dX5_checkSecondName_21 : decode cX5_checkSecondName 21 = .ok (.if_icmp .ne 52, 3) := by decide +kernel
theorem dX5_checkSecondName_24 : decode cX5_checkSecondName 24 = .ok (.aload_n 0, 1) := by decide +kernel
theorem dX5_checkSecondName_25 : decode cX5_checkSecondName 25 = .ok (.iload_n 1, 1) := by decide +kernel
theorem dX5_checkSecondName_26 : decode cX5_checkSecondName 26 = .ok (.iload_n 2, 1) := by decide +kernel
theorem dX5_checkSecondName_27 : decode cX5_checkSecondName 27 = .ok (.iconst 2, 1) := by decide +kernel
theorem dX5_checkSecondName_28 : decode cX5_checkSecondName 28 = .ok (.if_icmp .ne 7, 3) := by decide +kernel
theorem dX5_checkSecondName_31 : decode cX5_checkSecondName 31 = .ok (.iconst 1, 1) := by decide +kernel
theorem dX5_checkSecondName_32 : decode cX5_checkSecondName 32 = .ok (.goto 4, 3) := by decide +kernel
theorem dX5_checkSecondName_35 : decode cX5_checkSecondName 35 = .ok (.iconst 4, 1) := by decide +kernel
theorem dX5_checkSecondName_36 : decode cX5_checkSecondName 36 = .ok (.invokevirtual 67, 3) := by decide +kernel
theorem dX5_checkSecondName_39 : decode cX5_checkSecondName 39 = .ok (.aload_n 0, 1) := by decide +kernel
theorem dX5_checkSecondName_40 : decode cX5_checkSecondName 40 = .ok (.getfield 32, 3) := by decide +kernel
theorem dX5_checkSecondName_43 : decode cX5_checkSecondName 43 = .ok (.iload_n 1, 1) := by decide +kernel
theorem dX5_checkSecondName_44 : decode cX5_checkSecondName 44 = .ok (.invokevirtual 56, 3) := by decide +kernel
theorem dX5_checkSecondName_47 : decode cX5_checkSecondName 47 = .ok (.aload_n 0, 1) := by decide +kernel
theorem dX5_checkSecondName_48 : decode cX5_checkSecondName 48 = .ok (.getfield 32, 3) := by decide +kernel
theorem dX5_checkSecondName_51 : decode cX5_checkSecondName 51 = .ok (.iload_n 1, 1) := by decide +kernel
theorem dX5_checkSecondName_52 : decode cX5_checkSecondName 52 = .ok (.iconst 1, 1) := by decide +kernel
theorem dX5_checkSecondName_53 : decode cX5_checkSecondName 53 = .ok (.isub, 1) := by decide +kernel
theorem dX5_checkSecondName_54 : decode cX5_checkSecondName 54 = .ok (.invokevirtual 56, 3) := by decide +kernel
theorem dX5_checkSecondName_57 : decode cX5_checkSecondName 57 = .ok (.lcmp, 1) := by decide +kernel
theorem dX5_checkSecondName_58 : decode cX5_checkSecondName 58 = .ok (.ifCond .ne 22, 3) := by decide +kernel
theorem dX5_checkSecondName_61 : decode cX5_checkSecondName 61 = .ok (.aload_n 0, 1) := by decide +kernel
theorem dX5_checkSecondName_62 : decode cX5_checkSecondName 62 = .ok (.getfield 32, 3) := by decide +kernel
theorem dX5_checkSecondName_65 : decode cX5_checkSecondName 65 = .ok (.iconst 5, 1) := by decide +kernel
theorem dX5_checkSecondName_66 : decode cX5_checkSecondName 66 = .ok (.iload_n 1, 1) := by decide +kernel
theorem dX5_checkSecondName_67 : decode cX5_checkSecondName 67 = .ok (.invokevirtual 60, 3) := by decide +kernel
theorem dX5_checkSecondName_70 : decode cX5_checkSecondName 70 = .ok (.goto 10, 3) := by decide +kernel
theorem dX5_checkSecondName_73 : decode cX5_checkSecondName 73 = .ok (.aload_n 0, 1) := by decide +kernel
theorem dX5_checkSecondName_74 : decode cX5_checkSecondName 74 = .ok (.iload_n 1, 1) := by decide +kernel
theorem dX5_checkSecondName_75 : decode cX5_checkSecondName 75 = .ok (.bipush 6, 2) := by decide +kernel
theorem dX5_checkSecondName_77 : decode cX5_checkSecondName 77 = .ok (.invokevirtual 67, 3) := by decide +kernel
theorem dX5_checkSecondName_80 : decode cX5_checkSecondName 80 = .ok (.return_, 1) := by decide +kernel
theorem dX5_telling_0 : decode cX5_telling 0 = .ok (.iconst 0, 1) := by decide +kernel
theorem dX5_telling_1 : decode cX5_telling 1 = .ok (.istore_n 3, 1) := by decide +kernel
theorem dX5_telling_2 : decode cX5_telling 2 = .ok (.iload_n 3, 1) := by decide +kernel
theorem dX5_telling_3 : decode cX5_telling 3 = .ok (.aload_n 0, 1) := by decide +kernel
theorem dX5_telling_4 : decode cX5_telling 4 = .ok (.getfield 22, 3) := by decide +kernel
theorem dX5_telling_7 : decode cX5_telling 7 = .ok (.if_icmp .ge 31, 3) := by decide +kernel
theorem dX5_telling_10 : decode cX5_telling 10 = .ok (.iload_n 3, 1) := by decide +kernel
theorem dX5_telling_11 : decode cX5_telling 11 = .ok (.aload_n 0, 1) := by decide +kernel
theorem dX5_telling_12 : decode cX5_telling 12 = .ok (.getfield 9, 3) := by decide +kernel
theorem dX5_telling_15 : decode cX5_telling 15 = .ok (.arraylength, 1) := by decide +kernel
theorem dX5_telling_16 : decode cX5_telling 16 = .ok (.if_icmp .ge 22, 3) := by decide +kernel
theorem dX5_telling_19 : decode cX5_telling 19 = .ok (.aload_n 0, 1) := by decide +kernel
theorem dX5_telling_20 : decode cX5_telling 20 = .ok (.getfield 9, 3) := by decide +kernel
theorem dX5_telling_23 : decode cX5_telling 23 = .ok (.iload_n 3, 1) := by decide +kernel
theorem dX5_telling_24 : decode cX5_telling 24 = .ok (.laload, 1) := by decide +kernel
theorem dX5_telling_25 : decode cX5_telling 25 = .ok (.lload_n 1, 1) := by decide +kernel
theorem dX5_telling_26 : decode cX5_telling 26 = .ok (.lcmp, 1) := by decide +kernel
theorem dX5_telling_27 : decode cX5_telling 27 = .ok (.ifCond .ne 5, 3) := by decide +kernel
theorem dX5_telling_30 : decode cX5_telling 30 = .ok (.iload_n 3, 1) := by decide +kernel
theorem dX5_telling_31 : decode cX5_telling 31 = .ok (.ireturn, 1) := by decide +kernel
theorem dX5_telling_32 : decode cX5_telling 32 = .ok (.iinc 3 1, 3) := by decide +kernel
theorem dX5_telling_35 : decode cX5_telling 35 = .ok (.goto (-33), 3) := by decide +kernel
theorem dX5_telling_38 : decode cX5_telling 38 = .ok (.iconst (-1), 1) := by decide +kernel
theorem dX5_telling_39 : decode cX5_telling 39 = .ok (.ireturn, 1) := by decide +kernel
theorem dX5_tell_0 : decode cX5_tell 0 = .ok (.aload_n 0, 1) := by decide +kernel
theorem dX5_tell_1 : decode cX5_tell 1 = .ok (.aload_n 0, 1) := by decide +kernel
theorem dX5_tell_2 : decode cX5_tell 2 = .ok (.getfield 32, 3) := by decide +kernel
theorem dX5_tell_5 : decode cX5_tell 5 = .ok (.iload_n 1, 1) := by decide +kernel
theorem dX5_tell_6 : decode cX5_tell 6 = .ok (.invokevirtual 56, 3) := by decide +kernel
theorem dX5_tell_9 : decode cX5_tell 9 = .ok (.invokevirtual 73, 3) := by decide +kernel
theorem dX5_tell_12 : decode cX5_tell 12 = .ok (.iconst (-1), 1) := by decide +kernel
theorem dX5_tell_13 : decode cX5_tell 13 = .ok (.if_icmp .eq 15, 3) := by decide +kernel
theorem dX5_tell_16 : decode cX5_tell 16 = .ok (.aload_n 0, 1) := by decide +kernel
theorem dX5_tell_17 : decode cX5_tell 17 = .ok (.getfield 32, 3) := by decide +kernel
theorem dX5_tell_20 : decode cX5_tell 20 = .ok (.iconst 3, 1) := by decide +kernel
theorem dX5_tell_21 : decode cX5_tell 21 = .ok (.iload_n 1, 1) := by decide +kernel
theorem dX5_tell_22 : decode cX5_tell 22 = .ok (.invokevirtual 60, 3) := by decide +kernel
theorem dX5_tell_25 : decode cX5_tell 25 = .ok (.goto 104, 3) := by decide +kernel
theorem dX5_tell_28 : decode cX5_tell 28 = .ok (.aload_n 0, 1) := by decide +kernel
theorem dX5_tell_29 : decode cX5_tell 29 = .ok (.getfield 22, 3) := by decide +kernel
theorem dX5_tell_32 : decode cX5_tell 32 = .ok (.aload_n 0, 1) := by decide +kernel
theorem dX5_tell_33 : decode cX5_tell 33 = .ok (.getfield 9, 3) := by decide +kernel
theorem dX5_tell_36 : decode cX5_tell 36 = .ok (.arraylength, 1) := by decide +kernel
theorem dX5_tell_37 : decode cX5_tell 37 = .ok (.if_icmp .ge 92, 3) := by decide +kernel
theorem dX5_tell_40 : decode cX5_tell 40 = .ok (.iload_n 2, 1) := by decide +kernel
theorem dX5_tell_41 : decode cX5_tell 41 = .ok (.ifCond .lt 88, 3) := by decide +kernel
theorem dX5_tell_44 : decode cX5_tell 44 = .ok (.iload_n 2, 1) := by decide +kernel
theorem dX5_tell_45 : decode cX5_tell 45 = .ok (.aload_n 0, 1) := by decide +kernel
theorem dX5_tell_46 : decode cX5_tell 46 = .ok (.getfield 26, 3) := by decide +kernel
theorem dX5_tell_49 : decode cX5_tell 49 = .ok (.arraylength, 1) := by decide +kernel
theorem dX5_tell_50 : decode cX5_tell 50 = .ok (.if_icmp .ge 79, 3) := by decide +kernel
theorem dX5_tell_53 : decode cX5_tell 53 = .ok (.aload_n 0, 1) := by decide +kernel
theorem dX5_tell_54 : decode cX5_tell 54 = .ok (.getfield 9, 3) := by decide +kernel
theorem dX5_tell_57 : decode cX5_tell 57 = .ok (.aload_n 0, 1) := by decide +kernel
theorem dX5_tell_58 : decode cX5_tell 58 = .ok (.getfield 22, 3) := by decide +kernel
theorem dX5_tell_61 : decode cX5_tell 61 = .ok (.aload_n 0, 1) := by decide +kernel
theorem dX5_tell_62 : decode cX5_tell 62 = .ok (.getfield 32, 3) := by decide +kernel
theorem dX5_tell_65 : decode cX5_tell 65 = .ok (.iload_n 1, 1) := by decide +kernel
theorem dX5_tell_66 : decode cX5_tell 66 = .ok (.invokevirtual 56, 3) := by decide +kernel
theorem dX5_tell_69 : decode cX5_tell 69 = .ok (.lastore, 1) := by decide +kernel
theorem dX5_tell_70 : decode cX5_tell 70 = .ok (.aload_n 0, 1) := by decide +kernel
theorem dX5_tell_71 : decode cX5_tell 71 = .ok (.getfield 15, 3) := by decide +kernel
theorem dX5_tell_74 : decode cX5_tell 74 = .ok (.aload_n 0, 1) := by decide +kernel
theorem dX5_tell_75 : decode cX5_tell 75 = .ok (.getfield 22, 3) := by decide +kernel
theorem dX5_tell_78 : decode cX5_tell 78 = .ok (.iload_n 2, 1) := by decide +kernel
theorem dX5_tell_79 : decode cX5_tell 79 = .ok (.iastore, 1) := by decide +kernel
theorem dX5_tell_80 : decode cX5_tell 80 = .ok (.aload_n 0, 1) := by decide +kernel
theorem dX5_tell_81 : decode cX5_tell 81 = .ok (.getfield 19, 3) := by decide +kernel
theorem dX5_tell_84 : decode cX5_tell 84 = .ok (.aload_n 0, 1) := by decide +kernel
theorem dX5_tell_85 : decode cX5_tell 85 = .ok (.getfield 22, 3) := by decide +kernel
theorem dX5_tell_88 : decode cX5_tell 88 = .ok (.aload_n 0, 1) := by decide +kernel
theorem dX5_tell_89 : decode cX5_tell 89 = .ok (.getfield 26, 3) := by decide +kernel
theorem dX5_tell_92 : decode cX5_tell 92 = .ok (.iload_n 2, 1) := by decide +kernel
theorem dX5_tell_93 : decode cX5_tell 93 = .ok (.iaload, 1) := by decide +kernel
theorem dX5_tell_94 : decode cX5_tell 94 = .ok (.iastore, 1) := by decide +kernel
theorem dX5_tell_95 : decode cX5_tell 95 = .ok (.aload_n 0, 1) := by decide +kernel
theorem dX5_tell_96 : decode cX5_tell 96 = .ok (.dup, 1) := by decide +kernel
theorem dX5_tell_97 : decode cX5_tell 97 = .ok (.getfield 22, 3) := by decide +kernel
theorem dX5_tell_100 : decode cX5_tell 100 = .ok (.iconst 1, 1) := by decide +kernel
theorem dX5_tell_101 : decode cX5_tell 101 = .ok (.iadd, 1) := by decide +kernel
theorem dX5_tell_102 : decode cX5_tell 102 = .ok (.putfield 22, 3) := by decide +kernel
theorem dX5_tell_105 : decode cX5_tell 105 = .ok (.aload_n 0, 1) := by decide +kernel
theorem dX5_tell_106 : decode cX5_tell 106 = .ok (.getfield 32, 3) := by decide +kernel
theorem dX5_tell_109 : decode cX5_tell 109 = .ok (.iload_n 1, 1) := by decide +kernel
theorem dX5_tell_110 : decode cX5_tell 110 = .ok (.aload_n 0, 1) := by decide +kernel
theorem dX5_tell_111 : decode cX5_tell 111 = .ok (.getfield 26, 3) := by decide +kernel
theorem dX5_tell_114 : decode cX5_tell 114 = .ok (.iload_n 2, 1) := by decide +kernel
theorem dX5_tell_115 : decode cX5_tell 115 = .ok (.iaload, 1) := by decide +kernel
theorem dX5_tell_116 : decode cX5_tell 116 = .ok (.invokevirtual 77, 3) := by decide +kernel
theorem dX5_tell_119 : decode cX5_tell 119 = .ok (.aload_n 0, 1) := by decide +kernel
theorem dX5_tell_120 : decode cX5_tell 120 = .ok (.getfield 26, 3) := by decide +kernel
theorem dX5_tell_123 : decode cX5_tell 123 = .ok (.iload_n 2, 1) := by decide +kernel
theorem dX5_tell_124 : decode cX5_tell 124 = .ok (.dup2, 1) := by decide +kernel
theorem dX5_tell_125 : decode cX5_tell 125 = .ok (.iaload, 1) := by decide +kernel
theorem dX5_tell_126 : decode cX5_tell 126 = .ok (.iconst 1, 1) := by decide +kernel
theorem dX5_tell_127 : decode cX5_tell 127 = .ok (.iadd, 1) := by decide +kernel
theorem dX5_tell_128 : decode cX5_tell 128 = .ok (.iastore, 1) := by decide +kernel
theorem dX5_tell_129 : decode cX5_tell 129 = .ok (.return_, 1) := by decide +kernel
theorem dX5_use_0 : decode cX5_use 0 = .ok (.aload_n 0, 1) := by decide +kernel
theorem dX5_use_1 : decode cX5_use 1 = .ok (.getfield 32, 3) := by decide +kernel
theorem dX5_use_4 : decode cX5_use 4 = .ok (.iload_n 1, 1) := by decide +kernel
theorem dX5_use_5 : decode cX5_use 5 = .ok (.invokevirtual 56, 3) := by decide +kernel
theorem dX5_use_8 : decode cX5_use 8 = .ok (.lstore_n 3, 1) := by decide +kernel
theorem dX5_use_9 : decode cX5_use 9 = .ok (.aload_n 0, 1) := by decide +kernel
theorem dX5_use_10 : decode cX5_use 10 = .ok (.lload_n 3, 1) := by decide +kernel
theorem dX5_use_11 : decode cX5_use 11 = .ok (.invokevirtual 73, 3) := by decide +kernel
theorem dX5_use_14 : decode cX5_use 14 = .ok (.istore 5, 2) := by decide +kernel
theorem dX5_use_16 : decode cX5_use 16 = .ok (.iconst (-1), 1) := by decide +kernel
theorem dX5_use_17 : decode cX5_use 17 = .ok (.istore 6, 2) := by decide +kernel
theorem dX5_use_19 : decode cX5_use 19 = .ok (.iload 5, 2) := by decide +kernel
theorem dX5_use_21 : decode cX5_use 21 = .ok (.ifCond .lt 40, 3) := by decide +kernel
theorem dX5_use_24 : decode cX5_use 24 = .ok (.iload 5, 2) := by decide +kernel
theorem dX5_use_26 : decode cX5_use 26 = .ok (.aload_n 0, 1) := by decide +kernel
theorem dX5_use_27 : decode cX5_use 27 = .ok (.getfield 15, 3) := by decide +kernel
theorem dX5_use_30 : decode cX5_use 30 = .ok (.arraylength, 1) := by decide +kernel
theorem dX5_use_31 : decode cX5_use 31 = .ok (.if_icmp .ge 30, 3) := by decide +kernel
theorem dX5_use_34 : decode cX5_use 34 = .ok (.aload_n 0, 1) := by decide +kernel
theorem dX5_use_35 : decode cX5_use 35 = .ok (.getfield 15, 3) := by decide +kernel
theorem dX5_use_38 : decode cX5_use 38 = .ok (.iload 5, 2) := by decide +kernel
theorem dX5_use_40 : decode cX5_use 40 = .ok (.iaload, 1) := by decide +kernel
theorem dX5_use_41 : decode cX5_use 41 = .ok (.iload_n 2, 1) := by decide +kernel
theorem dX5_use_42 : decode cX5_use 42 = .ok (.if_icmp .ne 13, 3) := by decide +kernel
theorem dX5_use_45 : decode cX5_use 45 = .ok (.aload_n 0, 1) := by decide +kernel
theorem dX5_use_46 : decode cX5_use 46 = .ok (.getfield 19, 3) := by decide +kernel
theorem dX5_use_49 : decode cX5_use 49 = .ok (.iload 5, 2) := by decide +kernel
theorem dX5_use_51 : decode cX5_use 51 = .ok (.iaload, 1) := by decide +kernel
theorem dX5_use_52 : decode cX5_use 52 = .ok (.goto 4, 3) := by decide +kernel
theorem dX5_use_55 : decode cX5_use 55 = .ok (.iconst (-1), 1) := by decide +kernel
theorem dX5_use_56 : decode cX5_use 56 = .ok (.istore 6, 2) := by decide +kernel
theorem dX5_use_58 : decode cX5_use 58 = .ok (.goto 16, 3) := by decide +kernel
theorem dX5_use_61 : decode cX5_use 61 = .ok (.iload_n 2, 1) := by decide +kernel
theorem dX5_use_62 : decode cX5_use 62 = .ok (.bipush 7, 2) := by decide +kernel
theorem dX5_use_64 : decode cX5_use 64 = .ok (.if_icmp .ne 10, 3) := by decide +kernel
theorem dX5_use_67 : decode cX5_use 67 = .ok (.aload_n 0, 1) := by decide +kernel
theorem dX5_use_68 : decode cX5_use 68 = .ok (.lload_n 3, 1) := by decide +kernel
theorem dX5_use_69 : decode cX5_use 69 = .ok (.invokevirtual 80, 3) := by decide +kernel
theorem dX5_use_72 : decode cX5_use 72 = .ok (.istore 6, 2) := by decide +kernel
theorem dX5_use_74 : decode cX5_use 74 = .ok (.iload 6, 2) := by decide +kernel
theorem dX5_use_76 : decode cX5_use 76 = .ok (.iconst (-1), 1) := by decide +kernel
theorem dX5_use_77 : decode cX5_use 77 = .ok (.if_icmp .ne 15, 3) := by decide +kernel
theorem dX5_use_80 : decode cX5_use 80 = .ok (.aload_n 0, 1) := by decide +kernel
theorem dX5_use_81 : decode cX5_use 81 = .ok (.getfield 32, 3) := by decide +kernel
theorem dX5_use_84 : decode cX5_use 84 = .ok (.iconst 4, 1) := by decide +kernel
theorem dX5_use_85 : decode cX5_use 85 = .ok (.iload_n 1, 1) := by decide +kernel
theorem dX5_use_86 : decode cX5_use 86 = .ok (.invokevirtual 60, 3) := by decide +kernel
theorem dX5_use_89 : decode cX5_use 89 = .ok (.goto 13, 3) := by decide +kernel
theorem dX5_use_92 : decode cX5_use 92 = .ok (.aload_n 0, 1) := by decide +kernel
theorem dX5_use_93 : decode cX5_use 93 = .ok (.getfield 32, 3) := by decide +kernel
theorem dX5_use_96 : decode cX5_use 96 = .ok (.iload_n 1, 1) := by decide +kernel
theorem dX5_use_97 : decode cX5_use 97 = .ok (.iload 6, 2) := by decide +kernel
theorem dX5_use_99 : decode cX5_use 99 = .ok (.invokevirtual 77, 3) := by decide +kernel
theorem dX5_use_102 : decode cX5_use 102 = .ok (.return_, 1) := by decide +kernel
theorem dX5_modeNamed_0 : decode cX5_modeNamed 0 = .ok (.iconst 0, 1) := by decide +kernel
theorem dX5_modeNamed_1 : decode cX5_modeNamed 1 = .ok (.istore_n 3, 1) := by decide +kernel
theorem dX5_modeNamed_2 : decode cX5_modeNamed 2 = .ok (.iload_n 3, 1) := by decide +kernel
theorem dX5_modeNamed_3 : decode cX5_modeNamed 3 = .ok (.aload_n 0, 1) := by decide +kernel
theorem dX5_modeNamed_4 : decode cX5_modeNamed 4 = .ok (.getfield 29, 3) := by decide +kernel
theorem dX5_modeNamed_7 : decode cX5_modeNamed 7 = .ok (.arraylength, 1) := by decide +kernel
theorem dX5_modeNamed_8 : decode cX5_modeNamed 8 = .ok (.if_icmp .ge 22, 3) := by decide +kernel
theorem dX5_modeNamed_11 : decode cX5_modeNamed 11 = .ok (.aload_n 0, 1) := by decide +kernel
theorem dX5_modeNamed_12 : decode cX5_modeNamed 12 = .ok (.getfield 29, 3) := by decide +kernel
theorem dX5_modeNamed_15 : decode cX5_modeNamed 15 = .ok (.iload_n 3, 1) := by decide +kernel
theorem dX5_modeNamed_16 : decode cX5_modeNamed 16 = .ok (.laload, 1) := by decide +kernel
theorem dX5_modeNamed_17 : decode cX5_modeNamed 17 = .ok (.lload_n 1, 1) := by decide +kernel
theorem dX5_modeNamed_18 : decode cX5_modeNamed 18 = .ok (.lcmp, 1) := by decide +kernel
theorem dX5_modeNamed_19 : decode cX5_modeNamed 19 = .ok (.ifCond .ne 5, 3) := by decide +kernel
theorem dX5_modeNamed_22 : decode cX5_modeNamed 22 = .ok (.iload_n 3, 1) := by decide +kernel
theorem dX5_modeNamed_23 : decode cX5_modeNamed 23 = .ok (.ireturn, 1) := by decide +kernel
theorem dX5_modeNamed_24 : decode cX5_modeNamed 24 = .ok (.iinc 3 1, 3) := by decide +kernel
theorem dX5_modeNamed_27 : decode cX5_modeNamed 27 = .ok (.goto (-25), 3) := by decide +kernel
theorem dX5_modeNamed_30 : decode cX5_modeNamed 30 = .ok (.iconst (-1), 1) := by decide +kernel
theorem dX5_modeNamed_31 : decode cX5_modeNamed 31 = .ok (.ireturn, 1) := by decide +kernel
theorem dX6_init_0 : decode cX6_init 0 = .ok (.aload_n 0, 1) := by decide +kernel
theorem dX6_init_1 : decode cX6_init 1 = .ok (.invokespecial 3, 3) := by decide +kernel
theorem dX6_init_4 : decode cX6_init 4 = .ok (.aload_n 0, 1) := by decide +kernel
theorem dX6_init_5 : decode cX6_init 5 = .ok (.sipush 1000, 3) := by decide +kernel
theorem dX6_init_8 : decode cX6_init 8 = .ok (.newarray .byte, 2) := by decide +kernel
theorem dX6_init_10 : decode cX6_init 10 = .ok (.putfield 9, 3) := by decide +kernel
theorem dX6_init_13 : decode cX6_init 13 = .ok (.aload_n 0, 1) := by decide +kernel
theorem dX6_init_14 : decode cX6_init 14 = .ok (.sipush 1000, 3) := by decide +kernel
theorem dX6_init_17 : decode cX6_init 17 = .ok (.newarray .int, 2) := by decide +kernel
theorem dX6_init_19 : decode cX6_init 19 = .ok (.putfield 15, 3) := by decide +kernel
theorem dX6_init_22 : decode cX6_init 22 = .ok (.aload_n 0, 1) := by decide +kernel
theorem dX6_init_23 : decode cX6_init 23 = .ok (.iconst 0, 1) := by decide +kernel
theorem dX6_init_24 : decode cX6_init 24 = .ok (.putfield 19, 3) := by decide +kernel
theorem dX6_init_27 : decode cX6_init 27 = .ok (.aload_n 0, 1) := by decide +kernel
theorem dX6_init_28 : decode cX6_init 28 = .ok (.iconst 0, 1) := by decide +kernel
theorem dX6_init_29 : decode cX6_init 29 = .ok (.putfield 23, 3) := by decide +kernel
theorem dX6_init_32 : decode cX6_init 32 = .ok (.aload_n 0, 1) := by decide +kernel
theorem dX6_init_33 : decode cX6_init 33 = .ok (.bipush 13, 2) := by decide +kernel
theorem dX6_init_35 : decode cX6_init 35 = .ok (.newarray .int, 2) := by decide +kernel
theorem dX6_init_37 : decode cX6_init 37 = .ok (.putfield 26, 3) := by decide +kernel
theorem dX6_init_40 : decode cX6_init 40 = .ok (.aload_n 0, 1) := by decide +kernel
theorem dX6_init_41 : decode cX6_init 41 = .ok (.bipush 80, 2) := by decide +kernel
theorem dX6_init_43 : decode cX6_init 43 = .ok (.newarray .int, 2) := by decide +kernel
theorem dX6_init_45 : decode cX6_init 45 = .ok (.putfield 29, 3) := by decide +kernel
theorem dX6_init_48 : decode cX6_init 48 = .ok (.aload_n 0, 1) := by decide +kernel
theorem dX6_init_49 : decode cX6_init 49 = .ok (.bipush 80, 2) := by decide +kernel
theorem dX6_init_51 : decode cX6_init 51 = .ok (.newarray .int, 2) := by decide +kernel
theorem dX6_init_53 : decode cX6_init 53 = .ok (.putfield 32, 3) := by decide +kernel
theorem dX6_init_56 : decode cX6_init 56 = .ok (.aload_n 0, 1) := by decide +kernel
theorem dX6_init_57 : decode cX6_init 57 = .ok (.bipush 80, 2) := by decide +kernel
theorem dX6_init_59 : decode cX6_init 59 = .ok (.newarray .int, 2) := by decide +kernel
theorem dX6_init_61 : decode cX6_init 61 = .ok (.putfield 35, 3) := by decide +kernel
theorem dX6_init_64 : decode cX6_init 64 = .ok (.aload_n 0, 1) := by decide +kernel
theorem dX6_init_65 : decode cX6_init 65 = .ok (.bipush 80, 2) := by decide +kernel
theorem dX6_init_67 : decode cX6_init 67 = .ok (.newarray .boolean, 2) := by decide +kernel
theorem dX6_init_69 : decode cX6_init 69 = .ok (.putfield 38, 3) := by decide +kernel
theorem dX6_init_72 : decode cX6_init 72 = .ok (.aload_n 0, 1) := by decide +kernel
theorem dX6_init_73 : decode cX6_init 73 = .ok (.bipush 80, 2) := by decide +kernel
theorem dX6_init_75 : decode cX6_init 75 = .ok (.newarray .boolean, 2) := by decide +kernel
theorem dX6_init_77 : decode cX6_init 77 = .ok (.putfield 42, 3) := by decide +kernel
theorem dX6_init_80 : decode cX6_init 80 = .ok (.aload_n 0, 1) := by decide +kernel
theorem dX6_init_81 : decode cX6_init 81 = .ok (.bipush 24, 2) := by decide +kernel
theorem dX6_init_83 : decode cX6_init 83 = .ok (.newarray .int, 2) := by decide +kernel
theorem dX6_init_85 : decode cX6_init 85 = .ok (.putfield 45, 3) := by decide +kernel
theorem dX6_init_88 : decode cX6_init 88 = .ok (.aload_n 0, 1) := by decide +kernel
theorem dX6_init_89 : decode cX6_init 89 = .ok (.iconst (-1), 1) := by decide +kernel
theorem dX6_init_90 : decode cX6_init 90 = .ok (.putfield 48, 3) := by decide +kernel
theorem dX6_init_93 : decode cX6_init 93 = .ok (.return_, 1) := by decide +kernel
theorem dX6_size_0 : decode cX6_size 0 = .ok (.aload_n 0, 1) := by decide +kernel
theorem dX6_size_1 : decode cX6_size 1 = .ok (.getfield 19, 3) := by decide +kernel
theorem dX6_size_4 : decode cX6_size 4 = .ok (.ireturn, 1) := by decide +kernel
theorem dX6_kindAt_0 : decode cX6_kindAt 0 = .ok (.iload_n 1, 1) := by decide +kernel
theorem dX6_kindAt_1 : decode cX6_kindAt 1 = .ok (.ifCond .lt 20, 3) := by decide +kernel
theorem dX6_kindAt_4 : decode cX6_kindAt 4 = .ok (.iload_n 1, 1) := by decide +kernel
theorem dX6_kindAt_5 : decode cX6_kindAt 5 = .ok (.aload_n 0, 1) := by decide +kernel
theorem dX6_kindAt_6 : decode cX6_kindAt 6 = .ok (.getfield 19, 3) := by decide +kernel
theorem dX6_kindAt_9 : decode cX6_kindAt 9 = .ok (.if_icmp .ge 12, 3) := by decide +kernel
theorem dX6_kindAt_12 : decode cX6_kindAt 12 = .ok (.aload_n 0, 1) := by decide +kernel
theorem dX6_kindAt_13 : decode cX6_kindAt 13 = .ok (.getfield 9, 3) := by decide +kernel
theorem dX6_kindAt_16 : decode cX6_kindAt 16 = .ok (.iload_n 1, 1) := by decide +kernel
theorem dX6_kindAt_17 : decode cX6_kindAt 17 = .ok (.baload, 1) := by decide +kernel
theorem dX6_kindAt_18 : decode cX6_kindAt 18 = .ok (.goto 5, 3) := by decide +kernel
theorem dX6_kindAt_21 : decode cX6_kindAt 21 = .ok (.bipush 41, 2) := by decide +kernel
theorem dX6_kindAt_23 : decode cX6_kindAt 23 = .ok (.ireturn, 1) := by decide +kernel
theorem dX6_numberAt_0 : decode cX6_numberAt 0 = .ok (.iload_n 1, 1) := by decide +kernel
theorem dX6_numberAt_1 : decode cX6_numberAt 1 = .ok (.ifCond .lt 20, 3) := by decide +kernel
theorem dX6_numberAt_4 : decode cX6_numberAt 4 = .ok (.iload_n 1, 1) := by decide +kernel
theorem dX6_numberAt_5 : decode cX6_numberAt 5 = .ok (.aload_n 0, 1) := by decide +kernel
theorem dX6_numberAt_6 : decode cX6_numberAt 6 = .ok (.getfield 19, 3) := by decide +kernel
theorem dX6_numberAt_9 : decode cX6_numberAt 9 = .ok (.if_icmp .ge 12, 3) := by decide +kernel
theorem dX6_numberAt_12 : decode cX6_numberAt 12 = .ok (.aload_n 0, 1) := by decide +kernel
theorem dX6_numberAt_13 : decode cX6_numberAt 13 = .ok (.getfield 15, 3) := by decide +kernel
theorem dX6_numberAt_16 : decode cX6_numberAt 16 = .ok (.iload_n 1, 1) := by decide +kernel
theorem dX6_numberAt_17 : decode cX6_numberAt 17 = .ok (.iaload, 1) := by decide +kernel
theorem dX6_numberAt_18 : decode cX6_numberAt 18 = .ok (.goto 4, 3) := by decide +kernel
theorem dX6_numberAt_21 : decode cX6_numberAt 21 = .ok (.iconst 0, 1) := by decide +kernel
theorem dX6_numberAt_22 : decode cX6_numberAt 22 = .ok (.ireturn, 1) := by decide +kernel
theorem dX6_headOf_0 : decode cX6_headOf 0 = .ok (.iload_n 1, 1) := by decide +kernel
theorem dX6_headOf_1 : decode cX6_headOf 1 = .ok (.ifCond .lt 21, 3) := by decide +kernel
theorem dX6_headOf_4 : decode cX6_headOf 4 = .ok (.iload_n 1, 1) := by decide +kernel
theorem dX6_headOf_5 : decode cX6_headOf 5 = .ok (.aload_n 0, 1) := by decide +kernel
theorem dX6_headOf_6 : decode cX6_headOf 6 = .ok (.getfield 26, 3) := by decide +kernel
theorem dX6_headOf_9 : decode cX6_headOf 9 = .ok (.arraylength, 1) := by decide +kernel
theorem dX6_headOf_10 : decode cX6_headOf 10 = .ok (.if_icmp .ge 12, 3) := by decide +kernel
theorem dX6_headOf_13 : decode cX6_headOf 13 = .ok (.aload_n 0, 1) := by decide +kernel
theorem dX6_headOf_14 : decode cX6_headOf 14 = .ok (.getfield 26, 3) := by decide +kernel
theorem dX6_headOf_17 : decode cX6_headOf 17 = .ok (.iload_n 1, 1) := by decide +kernel
theorem dX6_headOf_18 : decode cX6_headOf 18 = .ok (.iaload, 1) := by decide +kernel
theorem dX6_headOf_19 : decode cX6_headOf 19 = .ok (.goto 7, 3) := by decide +kernel
theorem dX6_headOf_22 : decode cX6_headOf 22 = .ok (.aload_n 0, 1) := by decide +kernel
theorem dX6_headOf_23 : decode cX6_headOf 23 = .ok (.getfield 23, 3) := by decide +kernel
theorem dX6_headOf_26 : decode cX6_headOf 26 = .ok (.ireturn, 1) := by decide +kernel
theorem dX6_isOn_0 : decode cX6_isOn 0 = .ok (.iload_n 1, 1) := by decide +kernel
theorem dX6_isOn_1 : decode cX6_isOn 1 = .ok (.ifCond .lt 25, 3) := by decide +kernel
theorem dX6_isOn_4 : decode cX6_isOn 4 = .ok (.iload_n 1, 1) := by decide +kernel
theorem dX6_isOn_5 : decode cX6_isOn 5 = .ok (.aload_n 0, 1) := by decide +kernel
theorem dX6_isOn_6 : decode cX6_isOn 6 = .ok (.getfield 23, 3) := by decide +kernel
theorem dX6_isOn_9 : decode cX6_isOn 9 = .ok (.if_icmp .ge 17, 3) := by decide +kernel
theorem dX6_isOn_12 : decode cX6_isOn 12 = .ok (.aload_n 0, 1) := by decide +kernel
theorem dX6_isOn_13 : decode cX6_isOn 13 = .ok (.getfield 29, 3) := by decide +kernel
theorem dX6_isOn_16 : decode cX6_isOn 16 = .ok (.iload_n 1, 1) := by decide +kernel
theorem dX6_isOn_17 : decode cX6_isOn 17 = .ok (.iaload, 1) := by decide +kernel
theorem dX6_isOn_18 : decode cX6_isOn 18 = .ok (.iload_n 2, 1) := by decide +kernel
theorem dX6_isOn_19 : decode cX6_isOn 19 = .ok (.if_icmp .ne 7, 3) := by decide +kernel
theorem dX6_isOn_22 : decode cX6_isOn 22 = .ok (.iconst 1, 1) := by decide +kernel
theorem dX6_isOn_23 : decode cX6_isOn 23 = .ok (.goto 4, 3) := by decide +kernel
theorem dX6_isOn_26 : decode cX6_isOn 26 = .ok (.iconst 0, 1) := by decide +kernel
theorem dX6_isOn_27 : decode cX6_isOn 27 = .ok (.ireturn, 1) := by decide +kernel
theorem dX6_condOf_0 : decode cX6_condOf 0 = .ok (.iload_n 1, 1) := by decide +kernel
theorem dX6_condOf_1 : decode cX6_condOf 1 = .ok (.ifCond .lt 20, 3) := by decide +kernel
theorem dX6_condOf_4 : decode cX6_condOf 4 = .ok (.iload_n 1, 1) := by decide +kernel
theorem dX6_condOf_5 : decode cX6_condOf 5 = .ok (.aload_n 0, 1) := by decide +kernel
theorem dX6_condOf_6 : decode cX6_condOf 6 = .ok (.getfield 23, 3) := by decide +kernel
theorem dX6_condOf_9 : decode cX6_condOf 9 = .ok (.if_icmp .ge 12, 3) := by decide +kernel
theorem dX6_condOf_12 : decode cX6_condOf 12 = .ok (.aload_n 0, 1) := by decide +kernel
theorem dX6_condOf_13 : decode cX6_condOf 13 = .ok (.getfield 32, 3) := by decide +kernel
theorem dX6_condOf_16 : decode cX6_condOf 16 = .ok (.iload_n 1, 1) := by decide +kernel
theorem dX6_condOf_17 : decode cX6_condOf 17 = .ok (.iaload, 1) := by decide +kernel
theorem dX6_condOf_18 : decode cX6_condOf 18 = .ok (.goto 4, 3) := by decide +kernel
theorem dX6_condOf_21 : decode cX6_condOf 21 = .ok (.iconst (-1), 1) := by decide +kernel
theorem dX6_condOf_22 : decode cX6_condOf 22 = .ok (.ireturn, 1) := by decide +kernel
theorem dX6_actsOf_0 : decode cX6_actsOf 0 = .ok (.iload_n 1, 1) := by decide +kernel
theorem dX6_actsOf_1 : decode cX6_actsOf 1 = .ok (.ifCond .lt 20, 3) := by decide +kernel
theorem dX6_actsOf_4 : decode cX6_actsOf 4 = .ok (.iload_n 1, 1) := by decide +kernel
theorem dX6_actsOf_5 : decode cX6_actsOf 5 = .ok (.aload_n 0, 1) := by decide +kernel
theorem dX6_actsOf_6 : decode cX6_actsOf 6 = .ok (.getfield 23, 3) := by decide +kernel
theorem dX6_actsOf_9 : decode cX6_actsOf 9 = .ok (.if_icmp .ge 12, 3) := by decide +kernel
theorem dX6_actsOf_12 : decode cX6_actsOf 12 = .ok (.aload_n 0, 1) := by decide +kernel
theorem dX6_actsOf_13 : decode cX6_actsOf 13 = .ok (.getfield 35, 3) := by decide +kernel
theorem dX6_actsOf_16 : decode cX6_actsOf 16 = .ok (.iload_n 1, 1) := by decide +kernel
theorem dX6_actsOf_17 : decode cX6_actsOf 17 = .ok (.iaload, 1) := by decide +kernel
theorem dX6_actsOf_18 : decode cX6_actsOf 18 = .ok (.goto 7, 3) := by decide +kernel
theorem dX6_actsOf_21 : decode cX6_actsOf 21 = .ok (.aload_n 0, 1) := by decide +kernel
theorem dX6_actsOf_22 : decode cX6_actsOf 22 = .ok (.getfield 19, 3) := by decide +kernel
theorem dX6_actsOf_25 : decode cX6_actsOf 25 = .ok (.ireturn, 1) := by decide +kernel
theorem dX6_pays_0 : decode cX6_pays 0 = .ok (.iload_n 1, 1) := by decide +kernel
theorem dX6_pays_1 : decode cX6_pays 1 = .ok (.ifCond .lt 24, 3) := by decide +kernel
theorem dX6_pays_4 : decode cX6_pays 4 = .ok (.iload_n 1, 1) := by decide +kernel
theorem dX6_pays_5 : decode cX6_pays 5 = .ok (.aload_n 0, 1) := by decide +kernel
theorem dX6_pays_6 : decode cX6_pays 6 = .ok (.getfield 23, 3) := by decide +kernel
theorem dX6_pays_9 : decode cX6_pays 9 = .ok (.if_icmp .ge 16, 3) := by decide +kernel
theorem dX6_pays_12 : decode cX6_pays 12 = .ok (.aload_n 0, 1) := by decide +kernel
theorem dX6_pays_13 : decode cX6_pays 13 = .ok (.getfield 38, 3) := by decide +kernel
theorem dX6_pays_16 : decode cX6_pays 16 = .ok (.iload_n 1, 1) := by decide +kernel
theorem dX6_pays_17 : decode cX6_pays 17 = .ok (.baload, 1) := by decide +kernel
theorem dX6_pays_18 : decode cX6_pays 18 = .ok (.ifCond .eq 7, 3) := by decide +kernel
theorem dX6_pays_21 : decode cX6_pays 21 = .ok (.iconst 1, 1) := by decide +kernel
theorem dX6_pays_22 : decode cX6_pays 22 = .ok (.goto 4, 3) := by decide +kernel
theorem dX6_pays_25 : decode cX6_pays 25 = .ok (.iconst 0, 1) := by decide +kernel
theorem dX6_pays_26 : decode cX6_pays 26 = .ok (.ireturn, 1) := by decide +kernel
theorem dX6_hasHold_0 : decode cX6_hasHold 0 = .ok (.iload_n 1, 1) := by decide +kernel
theorem dX6_hasHold_1 : decode cX6_hasHold 1 = .ok (.ifCond .lt 24, 3) := by decide +kernel
theorem dX6_hasHold_4 : decode cX6_hasHold 4 = .ok (.iload_n 1, 1) := by decide +kernel
theorem dX6_hasHold_5 : decode cX6_hasHold 5 = .ok (.aload_n 0, 1) := by decide +kernel
theorem dX6_hasHold_6 : decode cX6_hasHold 6 = .ok (.getfield 23, 3) := by decide +kernel
theorem dX6_hasHold_9 : decode cX6_hasHold 9 = .ok (.if_icmp .ge 16, 3) := by decide +kernel
theorem dX6_hasHold_12 : decode cX6_hasHold 12 = .ok (.aload_n 0, 1) := by decide +kernel
theorem dX6_hasHold_13 : decode cX6_hasHold 13 = .ok (.getfield 42, 3) := by decide +kernel
theorem dX6_hasHold_16 : decode cX6_hasHold 16 = .ok (.iload_n 1, 1) := by decide +kernel
theorem dX6_hasHold_17 : decode cX6_hasHold 17 = .ok (.baload, 1) := by decide +kernel
theorem dX6_hasHold_18 : decode cX6_hasHold 18 = .ok (.ifCond .eq 7, 3) := by decide +kernel
theorem dX6_hasHold_21 : decode cX6_hasHold 21 = .ok (.iconst 1, 1) := by decide +kernel
theorem dX6_hasHold_22 : decode cX6_hasHold 22 = .ok (.goto 4, 3) := by decide +kernel
theorem dX6_hasHold_25 : decode cX6_hasHold 25 = .ok (.iconst 0, 1) := by decide +kernel
theorem dX6_hasHold_26 : decode cX6_hasHold 26 = .ok (.ireturn, 1) := by decide +kernel
theorem dX6_takeFrom_0 : decode cX6_takeFrom 0 = .ok (.aload_n 0, 1) := by decide +kernel
theorem dX6_takeFrom_1 : decode cX6_takeFrom 1 = .ok (.aload_n 1, 1) := by decide +kernel
theorem dX6_takeFrom_2 : decode cX6_takeFrom 2 = .ok (.invokevirtual 51, 3) := by decide +kernel
theorem dX6_takeFrom_5 : decode cX6_takeFrom 5 = .ok (.sipush 1000, 3) := by decide +kernel
theorem dX6_takeFrom_8 : decode cX6_takeFrom 8 = .ok (.invokestatic 56, 3) := by decide +kernel
theorem dX6_takeFrom_11 : decode cX6_takeFrom 11 = .ok (.putfield 19, 3) := by decide +kernel
theorem dX6_takeFrom_14 : decode cX6_takeFrom 14 = .ok (.aload_n 0, 1) := by decide +kernel
theorem dX6_takeFrom_15 : decode cX6_takeFrom 15 = .ok (.iconst 0, 1) := by decide +kernel
theorem dX6_takeFrom_16 : decode cX6_takeFrom 16 = .ok (.putfield 23, 3) := by decide +kernel
theorem dX6_takeFrom_19 : decode cX6_takeFrom 19 = .ok (.iconst 0, 1) := by decide +kernel
theorem dX6_takeFrom_20 : decode cX6_takeFrom 20 = .ok (.istore_n 2, 1) := by decide +kernel
theorem dX6_takeFrom_21 : decode cX6_takeFrom 21 = .ok (.iload_n 2, 1) := by decide +kernel
theorem dX6_takeFrom_22 : decode cX6_takeFrom 22 = .ok (.aload_n 0, 1) := by decide +kernel
theorem dX6_takeFrom_23 : decode cX6_takeFrom 23 = .ok (.getfield 45, 3) := by decide +kernel
theorem dX6_takeFrom_26 : decode cX6_takeFrom 26 = .ok (.arraylength, 1) := by decide +kernel
theorem dX6_takeFrom_27 : decode cX6_takeFrom 27 = .ok (.if_icmp .ge 16, 3) := by decide +kernel
theorem dX6_takeFrom_30 : decode cX6_takeFrom 30 = .ok (.aload_n 0, 1) := by decide +kernel
theorem dX6_takeFrom_31 : decode cX6_takeFrom 31 = .ok (.getfield 45, 3) := by decide +kernel
theorem dX6_takeFrom_34 : decode cX6_takeFrom 34 = .ok (.iload_n 2, 1) := by decide +kernel
theorem dX6_takeFrom_35 : decode cX6_takeFrom 35 = .ok (.iconst 0, 1) := by decide +kernel
theorem dX6_takeFrom_36 : decode cX6_takeFrom 36 = .ok (.iastore, 1) := by decide +kernel
theorem dX6_takeFrom_37 : decode cX6_takeFrom 37 = .ok (.iinc 2 1, 3) := by decide +kernel
theorem dX6_takeFrom_40 : decode cX6_takeFrom 40 = .ok (.goto (-19), 3) := by decide +kernel
theorem dX6_takeFrom_43 : decode cX6_takeFrom 43 = .ok (.iconst 0, 1) := by decide +kernel
theorem dX6_takeFrom_44 : decode cX6_takeFrom 44 = .ok (.istore_n 2, 1) := by decide +kernel
theorem dX6_takeFrom_45 : decode cX6_takeFrom 45 = .ok (.iconst 0, 1) := by decide +kernel
theorem dX6_takeFrom_46 : decode cX6_takeFrom 46 = .ok (.istore_n 3, 1) := by decide +kernel
theorem dX6_takeFrom_47 : decode cX6_takeFrom 47 = .ok (.iload_n 3, 1) := by decide +kernel
theorem dX6_takeFrom_48 : decode cX6_takeFrom 48 = .ok (.aload_n 0, 1) := by decide +kernel
theorem dX6_takeFrom_49 : decode cX6_takeFrom 49 = .ok (.getfield 19, 3) := by decide +kernel
theorem dX6_takeFrom_52 : decode cX6_takeFrom 52 = .ok (.if_icmp .ge 127, 3) := by decide +kernel
theorem dX6_takeFrom_55 : decode cX6_takeFrom 55 = .ok (.aload_n 0, 1) := by decide +kernel
theorem dX6_takeFrom_56 : decode cX6_takeFrom 56 = .ok (.getfield 9, 3) := by decide +kernel
theorem dX6_takeFrom_59 : decode cX6_takeFrom 59 = .ok (.iload_n 3, 1) := by decide +kernel
theorem dX6_takeFrom_60 : decode cX6_takeFrom 60 = .ok (.aload_n 1, 1) := by decide +kernel
theorem dX6_takeFrom_61 : decode cX6_takeFrom 61 = .ok (.iload_n 3, 1) := by decide +kernel
theorem dX6_takeFrom_62 : decode cX6_takeFrom 62 = .ok (.invokevirtual 62, 3) := by decide +kernel
theorem dX6_takeFrom_65 : decode cX6_takeFrom 65 = .ok (.i2b, 1) := by decide +kernel
theorem dX6_takeFrom_66 : decode cX6_takeFrom 66 = .ok (.bastore, 1) := by decide +kernel
theorem dX6_takeFrom_67 : decode cX6_takeFrom 67 = .ok (.aload_n 0, 1) := by decide +kernel
theorem dX6_takeFrom_68 : decode cX6_takeFrom 68 = .ok (.getfield 15, 3) := by decide +kernel
theorem dX6_takeFrom_71 : decode cX6_takeFrom 71 = .ok (.iload_n 3, 1) := by decide +kernel
theorem dX6_takeFrom_72 : decode cX6_takeFrom 72 = .ok (.aload_n 1, 1) := by decide +kernel
theorem dX6_takeFrom_73 : decode cX6_takeFrom 73 = .ok (.iload_n 3, 1) := by decide +kernel
theorem dX6_takeFrom_74 : decode cX6_takeFrom 74 = .ok (.invokevirtual 66, 3) := by decide +kernel
theorem dX6_takeFrom_77 : decode cX6_takeFrom 77 = .ok (.iastore, 1) := by decide +kernel
theorem dX6_takeFrom_78 : decode cX6_takeFrom 78 = .ok (.aload_n 0, 1) := by decide +kernel
theorem dX6_takeFrom_79 : decode cX6_takeFrom 79 = .ok (.getfield 9, 3) := by decide +kernel
theorem dX6_takeFrom_82 : decode cX6_takeFrom 82 = .ok (.iload_n 3, 1) := by decide +kernel
theorem dX6_takeFrom_83 : decode cX6_takeFrom 83 = .ok (.baload, 1) := by decide +kernel
theorem dX6_takeFrom_84 : decode cX6_takeFrom 84 = .ok (.bipush 7, 2) := by decide +kernel
theorem dX6_takeFrom_86 : decode cX6_takeFrom 86 = .ok (.if_icmp .ne 25, 3) := by decide +kernel
theorem dX6_takeFrom_89 : decode cX6_takeFrom 89 = .ok (.iload_n 2, 1) := by decide +kernel
theorem dX6_takeFrom_90 : decode cX6_takeFrom 90 = .ok (.bipush 12, 2) := by decide +kernel
theorem dX6_takeFrom_92 : decode cX6_takeFrom 92 = .ok (.if_icmp .ge 19, 3) := by decide +kernel
theorem dX6_takeFrom_95 : decode cX6_takeFrom 95 = .ok (.aload_n 0, 1) := by decide +kernel
theorem dX6_takeFrom_96 : decode cX6_takeFrom 96 = .ok (.getfield 26, 3) := by decide +kernel
theorem dX6_takeFrom_99 : decode cX6_takeFrom 99 = .ok (.iload_n 2, 1) := by decide +kernel
theorem dX6_takeFrom_100 : decode cX6_takeFrom 100 = .ok (.aload_n 0, 1) := by decide +kernel
theorem dX6_takeFrom_101 : decode cX6_takeFrom 101 = .ok (.getfield 23, 3) := by decide +kernel
theorem dX6_takeFrom_104 : decode cX6_takeFrom 104 = .ok (.iastore, 1) := by decide +kernel
theorem dX6_takeFrom_105 : decode cX6_takeFrom 105 = .ok (.iinc 2 1, 3) := by decide +kernel
theorem dX6_takeFrom_108 : decode cX6_takeFrom 108 = .ok (.goto 65, 3) := by decide +kernel
theorem dX6_takeFrom_111 : decode cX6_takeFrom 111 = .ok (.aload_n 0, 1) := by decide +kernel
theorem dX6_takeFrom_112 : decode cX6_takeFrom 112 = .ok (.getfield 9, 3) := by decide +kernel
theorem dX6_takeFrom_115 : decode cX6_takeFrom 115 = .ok (.iload_n 3, 1) := by decide +kernel
theorem dX6_takeFrom_116 : decode cX6_takeFrom 116 = .ok (.baload, 1) := by decide +kernel
theorem dX6_takeFrom_117 : decode cX6_takeFrom 117 = .ok (.bipush 11, 2) := by decide +kernel
theorem dX6_takeFrom_119 : decode cX6_takeFrom 119 = .ok (.if_icmp .ne 33, 3) := by decide +kernel
theorem dX6_takeFrom_122 : decode cX6_takeFrom 122 = .ok (.aload_n 0, 1) := by decide +kernel
theorem dX6_takeFrom_123 : decode cX6_takeFrom 123 = .ok (.getfield 23, 3) := by decide +kernel
theorem dX6_takeFrom_126 : decode cX6_takeFrom 126 = .ok (.bipush 80, 2) := by decide +kernel
theorem dX6_takeFrom_128 : decode cX6_takeFrom 128 = .ok (.if_icmp .ge 24, 3) := by decide +kernel
theorem dX6_takeFrom_131 : decode cX6_takeFrom 131 = .ok (.aload_n 0, 1) := by decide +kernel
theorem dX6_takeFrom_132 : decode cX6_takeFrom 132 = .ok (.aload_n 1, 1) := by decide +kernel
theorem dX6_takeFrom_133 : decode cX6_takeFrom 133 = .ok (.iload_n 3, 1) := by decide +kernel
theorem dX6_takeFrom_134 : decode cX6_takeFrom 134 = .ok (.iconst 1, 1) := by decide +kernel
theorem dX6_takeFrom_135 : decode cX6_takeFrom 135 = .ok (.iadd, 1) := by decide +kernel
theorem dX6_takeFrom_136 : decode cX6_takeFrom 136 = .ok (.invokevirtual 69, 3) := by decide +kernel
theorem dX6_takeFrom_139 : decode cX6_takeFrom 139 = .ok (.aload_n 0, 1) := by decide +kernel
theorem dX6_takeFrom_140 : decode cX6_takeFrom 140 = .ok (.dup, 1) := by decide +kernel
theorem dX6_takeFrom_141 : decode cX6_takeFrom 141 = .ok (.getfield 23, 3) := by decide +kernel
theorem dX6_takeFrom_144 : decode cX6_takeFrom 144 = .ok (.iconst 1, 1) := by decide +kernel
theorem dX6_takeFrom_145 : decode cX6_takeFrom 145 = .ok (.iadd, 1) := by decide +kernel
theorem dX6_takeFrom_146 : decode cX6_takeFrom 146 = .ok (.putfield 23, 3) := by decide +kernel
theorem dX6_takeFrom_149 : decode cX6_takeFrom 149 = .ok (.goto 24, 3) := by decide +kernel
theorem dX6_takeFrom_152 : decode cX6_takeFrom 152 = .ok (.aload_n 0, 1) := by decide +kernel
theorem dX6_takeFrom_153 : decode cX6_takeFrom 153 = .ok (.aload_n 0, 1) := by decide +kernel
theorem dX6_takeFrom_154 : decode cX6_takeFrom 154 = .ok (.getfield 23, 3) := by decide +kernel
theorem dX6_takeFrom_157 : decode cX6_takeFrom 157 = .ok (.iconst 1, 1) := by decide +kernel
theorem dX6_takeFrom_158 : decode cX6_takeFrom 158 = .ok (.isub, 1) := by decide +kernel
theorem dX6_takeFrom_159 : decode cX6_takeFrom 159 = .ok (.iload_n 3, 1) := by decide +kernel
theorem dX6_takeFrom_160 : decode cX6_takeFrom 160 = .ok (.aload_n 1, 1) := by decide +kernel
theorem dX6_takeFrom_161 : decode cX6_takeFrom 161 = .ok (.iload_n 3, 1) := by decide +kernel
theorem dX6_takeFrom_162 : decode cX6_takeFrom 162 = .ok (.iconst 1, 1) := by decide +kernel
theorem dX6_takeFrom_163 : decode cX6_takeFrom 163 = .ok (.iadd, 1) := by decide +kernel
theorem dX6_takeFrom_164 : decode cX6_takeFrom 164 = .ok (.invokevirtual 66, 3) := by decide +kernel
theorem dX6_takeFrom_167 : decode cX6_takeFrom 167 = .ok (.iload_n 2, 1) := by decide +kernel
theorem dX6_takeFrom_168 : decode cX6_takeFrom 168 = .ok (.iconst 1, 1) := by decide +kernel
theorem dX6_takeFrom_169 : decode cX6_takeFrom 169 = .ok (.isub, 1) := by decide +kernel
theorem dX6_takeFrom_170 : decode cX6_takeFrom 170 = .ok (.invokevirtual 73, 3) := by decide +kernel
theorem dX6_takeFrom_173 : decode cX6_takeFrom 173 = .ok (.iinc 3 1, 3) := by decide +kernel
theorem dX6_takeFrom_176 : decode cX6_takeFrom 176 = .ok (.goto (-129), 3) := by decide +kernel
theorem dX6_takeFrom_179 : decode cX6_takeFrom 179 = .ok (.iload_n 2, 1) := by decide +kernel
theorem dX6_takeFrom_180 : decode cX6_takeFrom 180 = .ok (.istore_n 3, 1) := by decide +kernel
theorem dX6_takeFrom_181 : decode cX6_takeFrom 181 = .ok (.iload_n 3, 1) := by decide +kernel
theorem dX6_takeFrom_182 : decode cX6_takeFrom 182 = .ok (.aload_n 0, 1) := by decide +kernel
theorem dX6_takeFrom_183 : decode cX6_takeFrom 183 = .ok (.getfield 26, 3) := by decide +kernel
theorem dX6_takeFrom_186 : decode cX6_takeFrom 186 = .ok (.arraylength, 1) := by decide +kernel
theorem dX6_takeFrom_187 : decode cX6_takeFrom 187 = .ok (.if_icmp .ge 19, 3) := by decide +kernel
theorem dX6_takeFrom_190 : decode cX6_takeFrom 190 = .ok (.aload_n 0, 1) := by decide +kernel
theorem dX6_takeFrom_191 : decode cX6_takeFrom 191 = .ok (.getfield 26, 3) := by decide +kernel
theorem dX6_takeFrom_194 : decode cX6_takeFrom 194 = .ok (.iload_n 3, 1) := by decide +kernel
theorem dX6_takeFrom_195 : decode cX6_takeFrom 195 = .ok (.aload_n 0, 1) := by decide +kernel
theorem dX6_takeFrom_196 : decode cX6_takeFrom 196 = .ok (.getfield 23, 3) := by decide +kernel
theorem dX6_takeFrom_199 : decode cX6_takeFrom 199 = .ok (.iastore, 1) := by decide +kernel
theorem dX6_takeFrom_200 : decode cX6_takeFrom 200 = .ok (.iinc 3 1, 3) := by decide +kernel
theorem dX6_takeFrom_203 : decode cX6_takeFrom 203 = .ok (.goto (-22), 3) := by decide +kernel
theorem dX6_takeFrom_206 : decode cX6_takeFrom 206 = .ok (.aload_n 0, 1) := by decide +kernel
theorem dX6_takeFrom_207 : decode cX6_takeFrom 207 = .ok (.iload_n 2, 1) := by decide +kernel
theorem dX6_takeFrom_208 : decode cX6_takeFrom 208 = .ok (.invokevirtual 77, 3) := by decide +kernel
theorem dX6_takeFrom_211 : decode cX6_takeFrom 211 = .ok (.return_, 1) := by decide +kernel
theorem dX6_openRule_0 : decode cX6_openRule 0 = .ok (.aload_n 1, 1) := by decide +kernel
theorem dX6_openRule_1 : decode cX6_openRule 1 = .ok (.iload_n 2, 1) := by decide +kernel
theorem dX6_openRule_2 : decode cX6_openRule 2 = .ok (.invokevirtual 62, 3) := by decide +kernel
theorem dX6_openRule_5 : decode cX6_openRule 5 = .ok (.istore_n 3, 1) := by decide +kernel
theorem dX6_openRule_6 : decode cX6_openRule 6 = .ok (.iload_n 3, 1) := by decide +kernel
theorem dX6_openRule_7 : decode cX6_openRule 7 = .ok (.bipush 27, 2) := by decide +kernel
theorem dX6_openRule_9 : decode cX6_openRule 9 = .ok (.if_icmp .ne 20, 3) := by decide +kernel
theorem dX6_openRule_12 : decode cX6_openRule 12 = .ok (.aload_n 0, 1) := by decide +kernel
theorem dX6_openRule_13 : decode cX6_openRule 13 = .ok (.getfield 29, 3) := by decide +kernel
theorem dX6_openRule_16 : decode cX6_openRule 16 = .ok (.aload_n 0, 1) := by decide +kernel
theorem dX6_openRule_17 : decode cX6_openRule 17 = .ok (.getfield 23, 3) := by decide +kernel
theorem dX6_openRule_20 : decode cX6_openRule 20 = .ok (.aload_n 1, 1) := by decide +kernel
theorem dX6_openRule_21 : decode cX6_openRule 21 = .ok (.iload_n 2, 1) := by decide +kernel
theorem dX6_openRule_22 : decode cX6_openRule 22 = .ok (.invokevirtual 66, 3) := by decide +kernel
theorem dX6_openRule_25 : decode cX6_openRule 25 = .ok (.iastore, 1) := by decide +kernel
theorem dX6_openRule_26 : decode cX6_openRule 26 = .ok (.goto 24, 3) := by decide +kernel
theorem dX6_openRule_29 : decode cX6_openRule 29 = .ok (.aload_n 0, 1) := by decide +kernel
theorem dX6_openRule_30 : decode cX6_openRule 30 = .ok (.getfield 29, 3) := by decide +kernel
theorem dX6_openRule_33 : decode cX6_openRule 33 = .ok (.aload_n 0, 1) := by decide +kernel
theorem dX6_openRule_34 : decode cX6_openRule 34 = .ok (.getfield 23, 3) := by decide +kernel
theorem dX6_openRule_37 : decode cX6_openRule 37 = .ok (.iload_n 3, 1) := by decide +kernel
theorem dX6_openRule_38 : decode cX6_openRule 38 = .ok (.bipush 12, 2) := by decide +kernel
theorem dX6_openRule_40 : decode cX6_openRule 40 = .ok (.if_icmp .ne 7, 3) := by decide +kernel
theorem dX6_openRule_43 : decode cX6_openRule 43 = .ok (.iconst (-1), 1) := by decide +kernel
theorem dX6_openRule_44 : decode cX6_openRule 44 = .ok (.goto 5, 3) := by decide +kernel
theorem dX6_openRule_47 : decode cX6_openRule 47 = .ok (.bipush (-2), 2) := by decide +kernel
theorem dX6_openRule_49 : decode cX6_openRule 49 = .ok (.iastore, 1) := by decide +kernel
theorem dX6_openRule_50 : decode cX6_openRule 50 = .ok (.aload_n 0, 1) := by decide +kernel
theorem dX6_openRule_51 : decode cX6_openRule 51 = .ok (.getfield 32, 3) := by decide +kernel
theorem dX6_openRule_54 : decode cX6_openRule 54 = .ok (.aload_n 0, 1) := by decide +kernel
theorem dX6_openRule_55 : decode cX6_openRule 55 = .ok (.getfield 23, 3) := by decide +kernel
theorem dX6_openRule_58 : decode cX6_openRule 58 = .ok (.iconst (-1), 1) := by decide +kernel
theorem dX6_openRule_59 : decode cX6_openRule 59 = .ok (.iastore, 1) := by decide +kernel
theorem dX6_openRule_60 : decode cX6_openRule 60 = .ok (.aload_n 0, 1) := by decide +kernel
theorem dX6_openRule_61 : decode cX6_openRule 61 = .ok (.getfield 35, 3) := by decide +kernel
theorem dX6_openRule_64 : decode cX6_openRule 64 = .ok (.aload_n 0, 1) := by decide +kernel
theorem dX6_openRule_65 : decode cX6_openRule 65 = .ok (.getfield 23, 3) := by decide +kernel
theorem dX6_openRule_68 : decode cX6_openRule 68 = .ok (.sipush 1000, 3) := by decide +kernel
theorem dX6_openRule_71 : decode cX6_openRule 71 = .ok (.iastore, 1) := by decide +kernel
theorem dX6_openRule_72 : decode cX6_openRule 72 = .ok (.aload_n 0, 1) := by decide +kernel
theorem dX6_openRule_73 : decode cX6_openRule 73 = .ok (.getfield 38, 3) := by decide +kernel
theorem dX6_openRule_76 : decode cX6_openRule 76 = .ok (.aload_n 0, 1) := by decide +kernel
theorem dX6_openRule_77 : decode cX6_openRule 77 = .ok (.getfield 23, 3) := by decide +kernel
theorem dX6_openRule_80 : decode cX6_openRule 80 = .ok (.iconst 0, 1) := by decide +kernel
theorem dX6_openRule_81 : decode cX6_openRule 81 = .ok (.bastore, 1) := by decide +kernel
theorem dX6_openRule_82 : decode cX6_openRule 82 = .ok (.aload_n 0, 1) := by decide +kernel
theorem dX6_openRule_83 : decode cX6_openRule 83 = .ok (.getfield 42, 3) := by decide +kernel
theorem dX6_openRule_86 : decode cX6_openRule 86 = .ok (.aload_n 0, 1) := by decide +kernel
theorem dX6_openRule_87 : decode cX6_openRule 87 = .ok (.getfield 23, 3) := by decide +kernel
theorem dX6_openRule_90 : decode cX6_openRule 90 = .ok (.iconst 0, 1) := by decide +kernel
theorem dX6_openRule_91 : decode cX6_openRule 91 = .ok (.bastore, 1) := by decide +kernel
theorem dX6_openRule_92 : decode cX6_openRule 92 = .ok (.return_, 1) := by decide +kernel
theorem dX6_takeIntoRule_0 : decode cX6_takeIntoRule 0 = .ok (.iload_n 1, 1) := by decide +kernel
theorem dX6_takeIntoRule_1 : decode cX6_takeIntoRule 1 = .ok (.ifCond .lt 30, 3) := by decide +kernel
theorem dX6_takeIntoRule_4 : decode cX6_takeIntoRule 4 = .ok (.iload_n 1, 1) := by decide +kernel
theorem dX6_takeIntoRule_5 : decode cX6_takeIntoRule 5 = .ok (.aload_n 0, 1) := by decide +kernel
theorem dX6_takeIntoRule_6 : decode cX6_takeIntoRule 6 = .ok (.getfield 29, 3) := by decide +kernel
theorem dX6_takeIntoRule_9 : decode cX6_takeIntoRule 9 = .ok (.arraylength, 1) := by decide +kernel
theorem dX6_takeIntoRule_10 : decode cX6_takeIntoRule 10 = .ok (.if_icmp .ge 21, 3) := by decide +kernel
theorem dX6_takeIntoRule_13 : decode cX6_takeIntoRule 13 = .ok (.iload 4, 2) := by decide +kernel
theorem dX6_takeIntoRule_15 : decode cX6_takeIntoRule 15 = .ok (.ifCond .lt 16, 3) := by decide +kernel
theorem dX6_takeIntoRule_18 : decode cX6_takeIntoRule 18 = .ok (.iload_n 2, 1) := by decide +kernel
theorem dX6_takeIntoRule_19 : decode cX6_takeIntoRule 19 = .ok (.ifCond .lt 12, 3) := by decide +kernel
theorem dX6_takeIntoRule_22 : decode cX6_takeIntoRule 22 = .ok (.iload_n 2, 1) := by decide +kernel
theorem dX6_takeIntoRule_23 : decode cX6_takeIntoRule 23 = .ok (.aload_n 0, 1) := by decide +kernel
theorem dX6_takeIntoRule_24 : decode cX6_takeIntoRule 24 = .ok (.getfield 9, 3) := by decide +kernel
theorem dX6_takeIntoRule_27 : decode cX6_takeIntoRule 27 = .ok (.arraylength, 1) := by decide +kernel
theorem dX6_takeIntoRule_28 : decode cX6_takeIntoRule 28 = .ok (.if_icmp .lt 4, 3) := by decide +kernel
theorem dX6_takeIntoRule_31 : decode cX6_takeIntoRule 31 = .ok (.return_, 1) := by decide +kernel
theorem dX6_takeIntoRule_32 : decode cX6_takeIntoRule 32 = .ok (.aload_n 0, 1) := by decide +kernel
theorem dX6_takeIntoRule_33 : decode cX6_takeIntoRule 33 = .ok (.getfield 9, 3) := by decide +kernel
theorem dX6_takeIntoRule_36 : decode cX6_takeIntoRule 36 = .ok (.iload_n 2, 1) := by decide +kernel
theorem dX6_takeIntoRule_37 : decode cX6_takeIntoRule 37 = .ok (.baload, 1) := by decide +kernel
theorem dX6_takeIntoRule_38 : decode cX6_takeIntoRule 38 = .ok (.istore 5, 2) := by decide +kernel
theorem dX6_takeIntoRule_40 : decode cX6_takeIntoRule 40 = .ok (.iload 5, 2) := by decide +kernel
theorem dX6_takeIntoRule_42 : decode cX6_takeIntoRule 42 = .ok (.bipush 14, 2) := by decide +kernel
theorem dX6_takeIntoRule_44 : decode cX6_takeIntoRule 44 = .ok (.if_icmp .ne 15, 3) := by decide +kernel
theorem dX6_takeIntoRule_47 : decode cX6_takeIntoRule 47 = .ok (.aload_n 0, 1) := by decide +kernel
theorem dX6_takeIntoRule_48 : decode cX6_takeIntoRule 48 = .ok (.getfield 32, 3) := by decide +kernel
theorem dX6_takeIntoRule_51 : decode cX6_takeIntoRule 51 = .ok (.iload_n 1, 1) := by decide +kernel
theorem dX6_takeIntoRule_52 : decode cX6_takeIntoRule 52 = .ok (.iload_n 2, 1) := by decide +kernel
theorem dX6_takeIntoRule_53 : decode cX6_takeIntoRule 53 = .ok (.iconst 1, 1) := by decide +kernel
theorem dX6_takeIntoRule_54 : decode cX6_takeIntoRule 54 = .ok (.iadd, 1) := by decide +kernel
theorem dX6_takeIntoRule_55 : decode cX6_takeIntoRule 55 = .ok (.iastore, 1) := by decide +kernel
theorem dX6_takeIntoRule_56 : decode cX6_takeIntoRule 56 = .ok (.goto 67, 3) := by decide +kernel
theorem dX6_takeIntoRule_59 : decode cX6_takeIntoRule 59 = .ok (.iload 5, 2) := by decide +kernel
theorem dX6_takeIntoRule_61 : decode cX6_takeIntoRule 61 = .ok (.bipush 30, 2) := by decide +kernel
theorem dX6_takeIntoRule_63 : decode cX6_takeIntoRule 63 = .ok (.if_icmp .ne 15, 3) := by decide +kernel
theorem dX6_takeIntoRule_66 : decode cX6_takeIntoRule 66 = .ok (.aload_n 0, 1) := by decide +kernel
theorem dX6_takeIntoRule_67 : decode cX6_takeIntoRule 67 = .ok (.getfield 35, 3) := by decide +kernel
theorem dX6_takeIntoRule_70 : decode cX6_takeIntoRule 70 = .ok (.iload_n 1, 1) := by decide +kernel
theorem dX6_takeIntoRule_71 : decode cX6_takeIntoRule 71 = .ok (.iload_n 2, 1) := by decide +kernel
theorem dX6_takeIntoRule_72 : decode cX6_takeIntoRule 72 = .ok (.iconst 1, 1) := by decide +kernel
theorem dX6_takeIntoRule_73 : decode cX6_takeIntoRule 73 = .ok (.iadd, 1) := by decide +kernel
theorem dX6_takeIntoRule_74 : decode cX6_takeIntoRule 74 = .ok (.iastore, 1) := by decide +kernel
theorem dX6_takeIntoRule_75 : decode cX6_takeIntoRule 75 = .ok (.goto 48, 3) := by decide +kernel
theorem dX6_takeIntoRule_78 : decode cX6_takeIntoRule 78 = .ok (.iload 5, 2) := by decide +kernel
theorem dX6_takeIntoRule_80 : decode cX6_takeIntoRule 80 = .ok (.bipush 21, 2) := by decide +kernel
theorem dX6_takeIntoRule_82 : decode cX6_takeIntoRule 82 = .ok (.if_icmp .ne 13, 3) := by decide +kernel
theorem dX6_takeIntoRule_85 : decode cX6_takeIntoRule 85 = .ok (.aload_n 0, 1) := by decide +kernel
theorem dX6_takeIntoRule_86 : decode cX6_takeIntoRule 86 = .ok (.getfield 42, 3) := by decide +kernel
theorem dX6_takeIntoRule_89 : decode cX6_takeIntoRule 89 = .ok (.iload_n 1, 1) := by decide +kernel
theorem dX6_takeIntoRule_90 : decode cX6_takeIntoRule 90 = .ok (.iconst 1, 1) := by decide +kernel
theorem dX6_takeIntoRule_91 : decode cX6_takeIntoRule 91 = .ok (.bastore, 1) := by decide +kernel
theorem dX6_takeIntoRule_92 : decode cX6_takeIntoRule 92 = .ok (.goto 31, 3) := by decide +kernel
theorem dX6_takeIntoRule_95 : decode cX6_takeIntoRule 95 = .ok (.iload 5, 2) := by decide +kernel
theorem dX6_takeIntoRule_97 : decode cX6_takeIntoRule 97 = .ok (.bipush 16, 2) := by decide +kernel
theorem dX6_takeIntoRule_99 : decode cX6_takeIntoRule 99 = .ok (.if_icmp .eq 17, 3) := by decide +kernel
theorem dX6_takeIntoRule_102 : decode cX6_takeIntoRule 102 = .ok (.iload 5, 2) := by decide +kernel
theorem dX6_takeIntoRule_104 : decode cX6_takeIntoRule 104 = .ok (.bipush 18, 2) := by decide +kernel
theorem dX6_takeIntoRule_106 : decode cX6_takeIntoRule 106 = .ok (.if_icmp .eq 10, 3) := by decide +kernel
theorem dX6_takeIntoRule_109 : decode cX6_takeIntoRule 109 = .ok (.iload 5, 2) := by decide +kernel
theorem dX6_takeIntoRule_111 : decode cX6_takeIntoRule 111 = .ok (.bipush 23, 2) := by decide +kernel
theorem dX6_takeIntoRule_113 : decode cX6_takeIntoRule 113 = .ok (.if_icmp .ne 10, 3) := by decide +kernel
theorem dX6_takeIntoRule_116 : decode cX6_takeIntoRule 116 = .ok (.aload_n 0, 1) := by decide +kernel
theorem dX6_takeIntoRule_117 : decode cX6_takeIntoRule 117 = .ok (.getfield 38, 3) := by decide +kernel
theorem dX6_takeIntoRule_120 : decode cX6_takeIntoRule 120 = .ok (.iload_n 1, 1) := by decide +kernel
theorem dX6_takeIntoRule_121 : decode cX6_takeIntoRule 121 = .ok (.iconst 1, 1) := by decide +kernel
theorem dX6_takeIntoRule_122 : decode cX6_takeIntoRule 122 = .ok (.bastore, 1) := by decide +kernel
theorem dX6_takeIntoRule_123 : decode cX6_takeIntoRule 123 = .ok (.aload_n 0, 1) := by decide +kernel
theorem dX6_takeIntoRule_124 : decode cX6_takeIntoRule 124 = .ok (.getfield 29, 3) := by decide +kernel
theorem dX6_takeIntoRule_127 : decode cX6_takeIntoRule 127 = .ok (.iload_n 1, 1) := by decide +kernel
theorem dX6_takeIntoRule_128 : decode cX6_takeIntoRule 128 = .ok (.iaload, 1) := by decide +kernel
theorem dX6_takeIntoRule_129 : decode cX6_takeIntoRule 129 = .ok (.ifCond .ge 33, 3) := by decide +kernel
theorem dX6_takeIntoRule_132 : decode cX6_takeIntoRule 132 = .ok (.iload 5, 2) := by decide +kernel
theorem dX6_takeIntoRule_134 : decode cX6_takeIntoRule 134 = .ok (.bipush 18, 2) := by decide +kernel
theorem dX6_takeIntoRule_136 : decode cX6_takeIntoRule 136 = .ok (.if_icmp .ne 26, 3) := by decide +kernel
theorem dX6_takeIntoRule_139 : decode cX6_takeIntoRule 139 = .ok (.aload_n 0, 1) := by decide +kernel
theorem dX6_takeIntoRule_140 : decode cX6_takeIntoRule 140 = .ok (.iload 4, 2) := by decide +kernel
theorem dX6_takeIntoRule_142 : decode cX6_takeIntoRule 142 = .ok (.aload_n 0, 1) := by decide +kernel
theorem dX6_takeIntoRule_143 : decode cX6_takeIntoRule 143 = .ok (.getfield 29, 3) := by decide +kernel
theorem dX6_takeIntoRule_146 : decode cX6_takeIntoRule 146 = .ok (.iload_n 1, 1) := by decide +kernel
theorem dX6_takeIntoRule_147 : decode cX6_takeIntoRule 147 = .ok (.iaload, 1) := by decide +kernel
theorem dX6_takeIntoRule_148 : decode cX6_takeIntoRule 148 = .ok (.invokestatic 81, 3) := by decide +kernel
theorem dX6_takeIntoRule_151 : decode cX6_takeIntoRule 151 = .ok (.iload_n 3, 1) := by decide +kernel
theorem dX6_takeIntoRule_152 : decode cX6_takeIntoRule 152 = .ok (.iconst (-1), 1) := by decide +kernel
theorem dX6_takeIntoRule_153 : decode cX6_takeIntoRule 153 = .ok (.invokestatic 81, 3) := by decide +kernel
theorem dX6_takeIntoRule_156 : decode cX6_takeIntoRule 156 = .ok (.invokevirtual 84, 3) := by decide +kernel
theorem dX6_takeIntoRule_159 : decode cX6_takeIntoRule 159 = .ok (.goto 41, 3) := by decide +kernel
theorem dX6_takeIntoRule_162 : decode cX6_takeIntoRule 162 = .ok (.aload_n 0, 1) := by decide +kernel
theorem dX6_takeIntoRule_163 : decode cX6_takeIntoRule 163 = .ok (.getfield 29, 3) := by decide +kernel
theorem dX6_takeIntoRule_166 : decode cX6_takeIntoRule 166 = .ok (.iload_n 1, 1) := by decide +kernel
theorem dX6_takeIntoRule_167 : decode cX6_takeIntoRule 167 = .ok (.iaload, 1) := by decide +kernel
theorem dX6_takeIntoRule_168 : decode cX6_takeIntoRule 168 = .ok (.ifCond .ge 32, 3) := by decide +kernel
theorem dX6_takeIntoRule_171 : decode cX6_takeIntoRule 171 = .ok (.iload 5, 2) := by decide +kernel
theorem dX6_takeIntoRule_173 : decode cX6_takeIntoRule 173 = .ok (.bipush 19, 2) := by decide +kernel
theorem dX6_takeIntoRule_175 : decode cX6_takeIntoRule 175 = .ok (.if_icmp .ne 25, 3) := by decide +kernel
theorem dX6_takeIntoRule_178 : decode cX6_takeIntoRule 178 = .ok (.aload_n 0, 1) := by decide +kernel
theorem dX6_takeIntoRule_179 : decode cX6_takeIntoRule 179 = .ok (.iload 4, 2) := by decide +kernel
theorem dX6_takeIntoRule_181 : decode cX6_takeIntoRule 181 = .ok (.aload_n 0, 1) := by decide +kernel
theorem dX6_takeIntoRule_182 : decode cX6_takeIntoRule 182 = .ok (.getfield 29, 3) := by decide +kernel
theorem dX6_takeIntoRule_185 : decode cX6_takeIntoRule 185 = .ok (.iload_n 1, 1) := by decide +kernel
theorem dX6_takeIntoRule_186 : decode cX6_takeIntoRule 186 = .ok (.iaload, 1) := by decide +kernel
theorem dX6_takeIntoRule_187 : decode cX6_takeIntoRule 187 = .ok (.invokestatic 81, 3) := by decide +kernel
theorem dX6_takeIntoRule_190 : decode cX6_takeIntoRule 190 = .ok (.iload 4, 2) := by decide +kernel
theorem dX6_takeIntoRule_192 : decode cX6_takeIntoRule 192 = .ok (.bipush (-2), 2) := by decide +kernel
theorem dX6_takeIntoRule_194 : decode cX6_takeIntoRule 194 = .ok (.invokestatic 81, 3) := by decide +kernel
theorem dX6_takeIntoRule_197 : decode cX6_takeIntoRule 197 = .ok (.invokevirtual 84, 3) := by decide +kernel
theorem dX6_takeIntoRule_200 : decode cX6_takeIntoRule 200 = .ok (.return_, 1) := by decide +kernel
theorem dX6_nodeOf_0 : decode cX6_nodeOf 0 = .ok (.iload_n 1, 1) := by decide +kernel
theorem dX6_nodeOf_1 : decode cX6_nodeOf 1 = .ok (.iconst (-1), 1) := by decide +kernel
theorem dX6_nodeOf_2 : decode cX6_nodeOf 2 = .ok (.if_icmp .ne 9, 3) := by decide +kernel
theorem dX6_nodeOf_5 : decode cX6_nodeOf 5 = .ok (.iconst 2, 1) := by decide +kernel
theorem dX6_nodeOf_6 : decode cX6_nodeOf 6 = .ok (.iload_n 0, 1) := by decide +kernel
theorem dX6_nodeOf_7 : decode cX6_nodeOf 7 = .ok (.imul, 1) := by decide +kernel
theorem dX6_nodeOf_8 : decode cX6_nodeOf 8 = .ok (.goto 8, 3) := by decide +kernel
theorem dX6_nodeOf_11 : decode cX6_nodeOf 11 = .ok (.iconst 2, 1) := by decide +kernel
theorem dX6_nodeOf_12 : decode cX6_nodeOf 12 = .ok (.iload_n 0, 1) := by decide +kernel
theorem dX6_nodeOf_13 : decode cX6_nodeOf 13 = .ok (.imul, 1) := by decide +kernel
theorem dX6_nodeOf_14 : decode cX6_nodeOf 14 = .ok (.iconst 1, 1) := by decide +kernel
theorem dX6_nodeOf_15 : decode cX6_nodeOf 15 = .ok (.iadd, 1) := by decide +kernel
theorem dX6_nodeOf_16 : decode cX6_nodeOf 16 = .ok (.ireturn, 1) := by decide +kernel
theorem dX6_addLead_0 : decode cX6_addLead 0 = .ok (.iload_n 1, 1) := by decide +kernel
theorem dX6_addLead_1 : decode cX6_addLead 1 = .ok (.ifCond .lt 37, 3) := by decide +kernel
theorem dX6_addLead_4 : decode cX6_addLead 4 = .ok (.iload_n 1, 1) := by decide +kernel
theorem dX6_addLead_5 : decode cX6_addLead 5 = .ok (.aload_n 0, 1) := by decide +kernel
theorem dX6_addLead_6 : decode cX6_addLead 6 = .ok (.getfield 45, 3) := by decide +kernel
theorem dX6_addLead_9 : decode cX6_addLead 9 = .ok (.arraylength, 1) := by decide +kernel
theorem dX6_addLead_10 : decode cX6_addLead 10 = .ok (.if_icmp .ge 28, 3) := by decide +kernel
theorem dX6_addLead_13 : decode cX6_addLead 13 = .ok (.iload_n 2, 1) := by decide +kernel
theorem dX6_addLead_14 : decode cX6_addLead 14 = .ok (.ifCond .lt 24, 3) := by decide +kernel
theorem dX6_addLead_17 : decode cX6_addLead 17 = .ok (.iload_n 2, 1) := by decide +kernel
theorem dX6_addLead_18 : decode cX6_addLead 18 = .ok (.aload_n 0, 1) := by decide +kernel
theorem dX6_addLead_19 : decode cX6_addLead 19 = .ok (.getfield 45, 3) := by decide +kernel
theorem dX6_addLead_22 : decode cX6_addLead 22 = .ok (.arraylength, 1) := by decide +kernel
theorem dX6_addLead_23 : decode cX6_addLead 23 = .ok (.if_icmp .ge 15, 3) := by decide +kernel
theorem dX6_addLead_26 : decode cX6_addLead 26 = .ok (.aload_n 0, 1) := by decide +kernel
theorem dX6_addLead_27 : decode cX6_addLead 27 = .ok (.getfield 45, 3) := by decide +kernel
theorem dX6_addLead_30 : decode cX6_addLead 30 = .ok (.iload_n 1, 1) := by decide +kernel
theorem dX6_addLead_31 : decode cX6_addLead 31 = .ok (.dup2, 1) := by decide +kernel
theorem dX6_addLead_32 : decode cX6_addLead 32 = .ok (.iaload, 1) := by decide +kernel
theorem dX6_addLead_33 : decode cX6_addLead 33 = .ok (.iconst 1, 1) := by decide +kernel
theorem dX6_addLead_34 : decode cX6_addLead 34 = .ok (.iload_n 2, 1) := by decide +kernel
theorem dX6_addLead_35 : decode cX6_addLead 35 = .ok (.ishl, 1) := by decide +kernel
theorem dX6_addLead_36 : decode cX6_addLead 36 = .ok (.ior, 1) := by decide +kernel
theorem dX6_addLead_37 : decode cX6_addLead 37 = .ok (.iastore, 1) := by decide +kernel
theorem dX6_addLead_38 : decode cX6_addLead 38 = .ok (.return_, 1) := by decide +kernel
theorem dX6_findRing_0 : decode cX6_findRing 0 = .ok (.iconst 0, 1) := by decide +kernel
theorem dX6_findRing_1 : decode cX6_findRing 1 = .ok (.istore_n 2, 1) := by decide +kernel
theorem dX6_findRing_2 : decode cX6_findRing 2 = .ok (.iload_n 2, 1) := by decide +kernel
theorem dX6_findRing_3 : decode cX6_findRing 3 = .ok (.aload_n 0, 1) := by decide +kernel
theorem dX6_findRing_4 : decode cX6_findRing 4 = .ok (.getfield 45, 3) := by decide +kernel
theorem dX6_findRing_7 : decode cX6_findRing 7 = .ok (.arraylength, 1) := by decide +kernel
theorem dX6_findRing_8 : decode cX6_findRing 8 = .ok (.if_icmp .ge 55, 3) := by decide +kernel
theorem dX6_findRing_11 : decode cX6_findRing 11 = .ok (.iconst 0, 1) := by decide +kernel
theorem dX6_findRing_12 : decode cX6_findRing 12 = .ok (.istore_n 3, 1) := by decide +kernel
theorem dX6_findRing_13 : decode cX6_findRing 13 = .ok (.iload_n 3, 1) := by decide +kernel
theorem dX6_findRing_14 : decode cX6_findRing 14 = .ok (.aload_n 0, 1) := by decide +kernel
theorem dX6_findRing_15 : decode cX6_findRing 15 = .ok (.getfield 45, 3) := by decide +kernel
theorem dX6_findRing_18 : decode cX6_findRing 18 = .ok (.arraylength, 1) := by decide +kernel
theorem dX6_findRing_19 : decode cX6_findRing 19 = .ok (.if_icmp .ge 38, 3) := by decide +kernel
theorem dX6_findRing_22 : decode cX6_findRing 22 = .ok (.aload_n 0, 1) := by decide +kernel
theorem dX6_findRing_23 : decode cX6_findRing 23 = .ok (.getfield 45, 3) := by decide +kernel
theorem dX6_findRing_26 : decode cX6_findRing 26 = .ok (.iload_n 3, 1) := by decide +kernel
theorem dX6_findRing_27 : decode cX6_findRing 27 = .ok (.iaload, 1) := by decide +kernel
theorem dX6_findRing_28 : decode cX6_findRing 28 = .ok (.iload_n 2, 1) := by decide +kernel
theorem dX6_findRing_29 : decode cX6_findRing 29 = .ok (.ishr, 1) := by decide +kernel
theorem dX6_findRing_30 : decode cX6_findRing 30 = .ok (.iconst 1, 1) := by decide +kernel
theorem dX6_findRing_31 : decode cX6_findRing 31 = .ok (.iand, 1) := by decide +kernel
theorem dX6_findRing_32 : decode cX6_findRing 32 = .ok (.iconst 1, 1) := by decide +kernel
theorem dX6_findRing_33 : decode cX6_findRing 33 = .ok (.if_icmp .ne 18, 3) := by decide +kernel
theorem dX6_findRing_36 : decode cX6_findRing 36 = .ok (.aload_n 0, 1) := by decide +kernel
theorem dX6_findRing_37 : decode cX6_findRing 37 = .ok (.getfield 45, 3) := by decide +kernel
theorem dX6_findRing_40 : decode cX6_findRing 40 = .ok (.iload_n 3, 1) := by decide +kernel
theorem dX6_findRing_41 : decode cX6_findRing 41 = .ok (.dup2, 1) := by decide +kernel
theorem dX6_findRing_42 : decode cX6_findRing 42 = .ok (.iaload, 1) := by decide +kernel
theorem dX6_findRing_43 : decode cX6_findRing 43 = .ok (.aload_n 0, 1) := by decide +kernel
theorem dX6_findRing_44 : decode cX6_findRing 44 = .ok (.getfield 45, 3) := by decide +kernel
theorem dX6_findRing_47 : decode cX6_findRing 47 = .ok (.iload_n 2, 1) := by decide +kernel
theorem dX6_findRing_48 : decode cX6_findRing 48 = .ok (.iaload, 1) := by decide +kernel
theorem dX6_findRing_49 : decode cX6_findRing 49 = .ok (.ior, 1) := by decide +kernel
theorem dX6_findRing_50 : decode cX6_findRing 50 = .ok (.iastore, 1) := by decide +kernel
theorem dX6_findRing_51 : decode cX6_findRing 51 = .ok (.iinc 3 1, 3) := by decide +kernel
theorem dX6_findRing_54 : decode cX6_findRing 54 = .ok (.goto (-41), 3) := by decide +kernel
theorem dX6_findRing_57 : decode cX6_findRing 57 = .ok (.iinc 2 1, 3) := by decide +kernel
theorem dX6_findRing_60 : decode cX6_findRing 60 = .ok (.goto (-58), 3) := by decide +kernel
theorem dX6_findRing_63 : decode cX6_findRing 63 = .ok (.aload_n 0, 1) := by decide +kernel
theorem dX6_findRing_64 : decode cX6_findRing 64 = .ok (.iconst (-1), 1) := by decide +kernel
theorem dX6_findRing_65 : decode cX6_findRing 65 = .ok (.putfield 48, 3) := by decide +kernel
theorem dX6_findRing_68 : decode cX6_findRing 68 = .ok (.iload_n 1, 1) := by decide +kernel
theorem dX6_findRing_69 : decode cX6_findRing 69 = .ok (.bipush 12, 2) := by decide +kernel
theorem dX6_findRing_71 : decode cX6_findRing 71 = .ok (.invokestatic 56, 3) := by decide +kernel
theorem dX6_findRing_74 : decode cX6_findRing 74 = .ok (.iconst 1, 1) := by decide +kernel
theorem dX6_findRing_75 : decode cX6_findRing 75 = .ok (.isub, 1) := by decide +kernel
theorem dX6_findRing_76 : decode cX6_findRing 76 = .ok (.istore_n 2, 1) := by decide +kernel
theorem dX6_findRing_77 : decode cX6_findRing 77 = .ok (.iload_n 2, 1) := by decide +kernel
theorem dX6_findRing_78 : decode cX6_findRing 78 = .ok (.ifCond .lt 32, 3) := by decide +kernel
theorem dX6_findRing_81 : decode cX6_findRing 81 = .ok (.aload_n 0, 1) := by decide +kernel
theorem dX6_findRing_82 : decode cX6_findRing 82 = .ok (.getfield 45, 3) := by decide +kernel
theorem dX6_findRing_85 : decode cX6_findRing 85 = .ok (.iconst 2, 1) := by decide +kernel
theorem dX6_findRing_86 : decode cX6_findRing 86 = .ok (.iload_n 2, 1) := by decide +kernel
theorem dX6_findRing_87 : decode cX6_findRing 87 = .ok (.imul, 1) := by decide +kernel
theorem dX6_findRing_88 : decode cX6_findRing 88 = .ok (.iaload, 1) := by decide +kernel
theorem dX6_findRing_89 : decode cX6_findRing 89 = .ok (.iconst 2, 1) := by decide +kernel
theorem dX6_findRing_90 : decode cX6_findRing 90 = .ok (.iload_n 2, 1) := by decide +kernel
theorem dX6_findRing_91 : decode cX6_findRing 91 = .ok (.imul, 1) := by decide +kernel
theorem dX6_findRing_92 : decode cX6_findRing 92 = .ok (.ishr, 1) := by decide +kernel
theorem dX6_findRing_93 : decode cX6_findRing 93 = .ok (.iconst 1, 1) := by decide +kernel
theorem dX6_findRing_94 : decode cX6_findRing 94 = .ok (.iand, 1) := by decide +kernel
theorem dX6_findRing_95 : decode cX6_findRing 95 = .ok (.iconst 1, 1) := by decide +kernel
theorem dX6_findRing_96 : decode cX6_findRing 96 = .ok (.if_icmp .ne 8, 3) := by decide +kernel
theorem dX6_findRing_99 : decode cX6_findRing 99 = .ok (.aload_n 0, 1) := by decide +kernel
theorem dX6_findRing_100 : decode cX6_findRing 100 = .ok (.iload_n 2, 1) := by decide +kernel
theorem dX6_findRing_101 : decode cX6_findRing 101 = .ok (.putfield 48, 3) := by decide +kernel
theorem dX6_findRing_104 : decode cX6_findRing 104 = .ok (.iinc 2 (-1), 3) := by decide +kernel
theorem dX6_findRing_107 : decode cX6_findRing 107 = .ok (.goto (-30), 3) := by decide +kernel
theorem dX6_findRing_110 : decode cX6_findRing 110 = .ok (.return_, 1) := by decide +kernel
theorem dX7_init_0 : decode cX7_init 0 = .ok (.aload_n 0, 1) := by decide +kernel
theorem dX7_init_1 : decode cX7_init 1 = .ok (.invokespecial 3, 3) := by decide +kernel
theorem dX7_init_4 : decode cX7_init 4 = .ok (.aload_n 0, 1) := by decide +kernel
theorem dX7_init_5 : decode cX7_init 5 = .ok (.bipush 6, 2) := by decide +kernel
theorem dX7_init_7 : decode cX7_init 7 = .ok (.newarray .int, 2) := by decide +kernel
theorem dX7_init_9 : decode cX7_init 9 = .ok (.putfield 9, 3) := by decide +kernel
theorem dX7_init_12 : decode cX7_init 12 = .ok (.aload_n 0, 1) := by decide +kernel
theorem dX7_init_13 : decode cX7_init 13 = .ok (.bipush 6, 2) := by decide +kernel
theorem dX7_init_15 : decode cX7_init 15 = .ok (.newarray .int, 2) := by decide +kernel
theorem dX7_init_17 : decode cX7_init 17 = .ok (.putfield 15, 3) := by decide +kernel
theorem dX7_init_20 : decode cX7_init 20 = .ok (.aload_n 0, 1) := by decide +kernel
theorem dX7_init_21 : decode cX7_init 21 = .ok (.iconst 0, 1) := by decide +kernel
theorem dX7_init_22 : decode cX7_init 22 = .ok (.putfield 18, 3) := by decide +kernel
theorem dX7_init_25 : decode cX7_init 25 = .ok (.aload_n 0, 1) := by decide +kernel
theorem dX7_init_26 : decode cX7_init 26 = .ok (.aload_n 1, 1) := by decide +kernel
theorem dX7_init_27 : decode cX7_init 27 = .ok (.putfield 22, 3) := by decide +kernel
theorem dX7_init_30 : decode cX7_init 30 = .ok (.return_, 1) := by decide +kernel
theorem dX7_work_0 : decode cX7_work 0 = .ok (.iconst 0, 1) := by decide +kernel
theorem dX7_work_1 : decode cX7_work 1 = .ok (.istore 5, 2) := by decide +kernel
theorem dX7_work_3 : decode cX7_work 3 = .ok (.iconst 0, 1) := by decide +kernel
theorem dX7_work_4 : decode cX7_work 4 = .ok (.istore 6, 2) := by decide +kernel
theorem dX7_work_6 : decode cX7_work 6 = .ok (.iconst 1, 1) := by decide +kernel
theorem dX7_work_7 : decode cX7_work 7 = .ok (.istore 7, 2) := by decide +kernel
theorem dX7_work_9 : decode cX7_work 9 = .ok (.iconst 1, 1) := by decide +kernel
theorem dX7_work_10 : decode cX7_work 10 = .ok (.istore 8, 2) := by decide +kernel
theorem dX7_work_12 : decode cX7_work 12 = .ok (.iconst 0, 1) := by decide +kernel
theorem dX7_work_13 : decode cX7_work 13 = .ok (.iload_n 1, 1) := by decide +kernel
theorem dX7_work_14 : decode cX7_work 14 = .ok (.invokestatic 26, 3) := by decide +kernel
theorem dX7_work_17 : decode cX7_work 17 = .ok (.istore 9, 2) := by decide +kernel
theorem dX7_work_19 : decode cX7_work 19 = .ok (.iload 9, 2) := by decide +kernel
theorem dX7_work_21 : decode cX7_work 21 = .ok (.aload_n 0, 1) := by decide +kernel
theorem dX7_work_22 : decode cX7_work 22 = .ok (.getfield 22, 3) := by decide +kernel
theorem dX7_work_25 : decode cX7_work 25 = .ok (.invokevirtual 32, 3) := by decide +kernel
theorem dX7_work_28 : decode cX7_work 28 = .ok (.if_icmp .ge 235, 3) := by decide +kernel
theorem dX7_work_31 : decode cX7_work 31 = .ok (.aload_n 0, 1) := by decide +kernel
theorem dX7_work_32 : decode cX7_work 32 = .ok (.iload 9, 2) := by decide +kernel
theorem dX7_work_34 : decode cX7_work 34 = .ok (.putfield 18, 3) := by decide +kernel
theorem dX7_work_37 : decode cX7_work 37 = .ok (.aload_n 0, 1) := by decide +kernel
theorem dX7_work_38 : decode cX7_work 38 = .ok (.getfield 22, 3) := by decide +kernel
theorem dX7_work_41 : decode cX7_work 41 = .ok (.iload 9, 2) := by decide +kernel
theorem dX7_work_43 : decode cX7_work 43 = .ok (.invokevirtual 38, 3) := by decide +kernel
theorem dX7_work_46 : decode cX7_work 46 = .ok (.istore 10, 2) := by decide +kernel
theorem dX7_work_48 : decode cX7_work 48 = .ok (.iload 10, 2) := by decide +kernel
theorem dX7_work_50 : decode cX7_work 50 = .ok (.bipush 32, 2) := by decide +kernel
theorem dX7_work_52 : decode cX7_work 52 = .ok (.if_icmp .ne 46, 3) := by decide +kernel
theorem dX7_work_55 : decode cX7_work 55 = .ok (.iload 5, 2) := by decide +kernel
theorem dX7_work_57 : decode cX7_work 57 = .ok (.aload_n 0, 1) := by decide +kernel
theorem dX7_work_58 : decode cX7_work 58 = .ok (.getfield 9, 3) := by decide +kernel
theorem dX7_work_61 : decode cX7_work 61 = .ok (.arraylength, 1) := by decide +kernel
theorem dX7_work_62 : decode cX7_work 62 = .ok (.if_icmp .ge 36, 3) := by decide +kernel
theorem dX7_work_65 : decode cX7_work 65 = .ok (.aload_n 0, 1) := by decide +kernel
theorem dX7_work_66 : decode cX7_work 66 = .ok (.getfield 9, 3) := by decide +kernel
theorem dX7_work_69 : decode cX7_work 69 = .ok (.iload 5, 2) := by decide +kernel
theorem dX7_work_71 : decode cX7_work 71 = .ok (.iload 6, 2) := by decide +kernel
theorem dX7_work_73 : decode cX7_work 73 = .ok (.iastore, 1) := by decide +kernel
theorem dX7_work_74 : decode cX7_work 74 = .ok (.aload_n 0, 1) := by decide +kernel
theorem dX7_work_75 : decode cX7_work 75 = .ok (.getfield 15, 3) := by decide +kernel
theorem dX7_work_78 : decode cX7_work 78 = .ok (.iload 5, 2) := by decide +kernel
theorem dX7_work_80 : decode cX7_work 80 = .ok (.iload 7, 2) := by decide +kernel
theorem dX7_work_82 : decode cX7_work 82 = .ok (.iastore, 1) := by decide +kernel
theorem dX7_work_83 : decode cX7_work 83 = .ok (.iinc 5 1, 3) := by decide +kernel
theorem dX7_work_86 : decode cX7_work 86 = .ok (.iconst 0, 1) := by decide +kernel
theorem dX7_work_87 : decode cX7_work 87 = .ok (.istore 6, 2) := by decide +kernel
theorem dX7_work_89 : decode cX7_work 89 = .ok (.iconst 1, 1) := by decide +kernel
theorem dX7_work_90 : decode cX7_work 90 = .ok (.istore 7, 2) := by decide +kernel
theorem dX7_work_92 : decode cX7_work 92 = .ok (.iconst 1, 1) := by decide +kernel
theorem dX7_work_93 : decode cX7_work 93 = .ok (.istore 8, 2) := by decide +kernel
theorem dX7_work_95 : decode cX7_work 95 = .ok (.goto 162, 3) := by decide +kernel
theorem dX7_work_98 : decode cX7_work 98 = .ok (.iload 10, 2) := by decide +kernel
theorem dX7_work_100 : decode cX7_work 100 = .ok (.bipush 33, 2) := by decide +kernel
theorem dX7_work_102 : decode cX7_work 102 = .ok (.if_icmp .ne 38, 3) := by decide +kernel
theorem dX7_work_105 : decode cX7_work 105 = .ok (.iload 5, 2) := by decide +kernel
theorem dX7_work_107 : decode cX7_work 107 = .ok (.ifCond .le 33, 3) := by decide +kernel
theorem dX7_work_110 : decode cX7_work 110 = .ok (.iinc 5 (-1), 3) := by decide +kernel
theorem dX7_work_113 : decode cX7_work 113 = .ok (.aload_n 0, 1) := by decide +kernel
theorem dX7_work_114 : decode cX7_work 114 = .ok (.getfield 15, 3) := by decide +kernel
theorem dX7_work_117 : decode cX7_work 117 = .ok (.iload 5, 2) := by decide +kernel
theorem dX7_work_119 : decode cX7_work 119 = .ok (.iaload, 1) := by decide +kernel
theorem dX7_work_120 : decode cX7_work 120 = .ok (.iload 6, 2) := by decide +kernel
theorem dX7_work_122 : decode cX7_work 122 = .ok (.iload 7, 2) := by decide +kernel
theorem dX7_work_124 : decode cX7_work 124 = .ok (.iadd, 1) := by decide +kernel
theorem dX7_work_125 : decode cX7_work 125 = .ok (.imul, 1) := by decide +kernel
theorem dX7_work_126 : decode cX7_work 126 = .ok (.istore 7, 2) := by decide +kernel
theorem dX7_work_128 : decode cX7_work 128 = .ok (.aload_n 0, 1) := by decide +kernel
theorem dX7_work_129 : decode cX7_work 129 = .ok (.getfield 9, 3) := by decide +kernel
theorem dX7_work_132 : decode cX7_work 132 = .ok (.iload 5, 2) := by decide +kernel
theorem dX7_work_134 : decode cX7_work 134 = .ok (.iaload, 1) := by decide +kernel
theorem dX7_work_135 : decode cX7_work 135 = .ok (.istore 6, 2) := by decide +kernel
theorem dX7_work_137 : decode cX7_work 137 = .ok (.goto 120, 3) := by decide +kernel
theorem dX7_work_140 : decode cX7_work 140 = .ok (.iload 10, 2) := by decide +kernel
theorem dX7_work_142 : decode cX7_work 142 = .ok (.bipush 34, 2) := by decide +kernel
theorem dX7_work_144 : decode cX7_work 144 = .ok (.if_icmp .eq 10, 3) := by decide +kernel
theorem dX7_work_147 : decode cX7_work 147 = .ok (.iload 10, 2) := by decide +kernel
theorem dX7_work_149 : decode cX7_work 149 = .ok (.bipush 35, 2) := by decide +kernel
theorem dX7_work_151 : decode cX7_work 151 = .ok (.if_icmp .ne 36, 3) := by decide +kernel
theorem dX7_work_154 : decode cX7_work 154 = .ok (.iload 6, 2) := by decide +kernel
theorem dX7_work_156 : decode cX7_work 156 = .ok (.iload 8, 2) := by decide +kernel
theorem dX7_work_158 : decode cX7_work 158 = .ok (.ifCond .eq 7, 3) := by decide +kernel
theorem dX7_work_161 : decode cX7_work 161 = .ok (.iconst 0, 1) := by decide +kernel
theorem dX7_work_162 : decode cX7_work 162 = .ok (.goto 5, 3) := by decide +kernel
theorem dX7_work_165 : decode cX7_work 165 = .ok (.iload 7, 2) := by decide +kernel
theorem dX7_work_167 : decode cX7_work 167 = .ok (.iadd, 1) := by decide +kernel
theorem dX7_work_168 : decode cX7_work 168 = .ok (.istore 6, 2) := by decide +kernel
theorem dX7_work_170 : decode cX7_work 170 = .ok (.iload 10, 2) := by decide +kernel
theorem dX7_work_172 : decode cX7_work 172 = .ok (.bipush 34, 2) := by decide +kernel
theorem dX7_work_174 : decode cX7_work 174 = .ok (.if_icmp .ne 7, 3) := by decide +kernel
theorem dX7_work_177 : decode cX7_work 177 = .ok (.iconst 1, 1) := by decide +kernel
theorem dX7_work_178 : decode cX7_work 178 = .ok (.goto 4, 3) := by decide +kernel
theorem dX7_work_181 : decode cX7_work 181 = .ok (.iconst (-1), 1) := by decide +kernel
theorem dX7_work_182 : decode cX7_work 182 = .ok (.istore 7, 2) := by decide +kernel
theorem dX7_work_184 : decode cX7_work 184 = .ok (.goto 73, 3) := by decide +kernel
theorem dX7_work_187 : decode cX7_work 187 = .ok (.iload 10, 2) := by decide +kernel
theorem dX7_work_189 : decode cX7_work 189 = .ok (.bipush 28, 2) := by decide +kernel
theorem dX7_work_191 : decode cX7_work 191 = .ok (.if_icmp .eq 24, 3) := by decide +kernel
theorem dX7_work_194 : decode cX7_work 194 = .ok (.iload 10, 2) := by decide +kernel
theorem dX7_work_196 : decode cX7_work 196 = .ok (.bipush 27, 2) := by decide +kernel
theorem dX7_work_198 : decode cX7_work 198 = .ok (.if_icmp .eq 17, 3) := by decide +kernel
theorem dX7_work_201 : decode cX7_work 201 = .ok (.iload 10, 2) := by decide +kernel
theorem dX7_work_203 : decode cX7_work 203 = .ok (.bipush 25, 2) := by decide +kernel
theorem dX7_work_205 : decode cX7_work 205 = .ok (.if_icmp .eq 10, 3) := by decide +kernel
theorem dX7_work_208 : decode cX7_work 208 = .ok (.iload 10, 2) := by decide +kernel
theorem dX7_work_210 : decode cX7_work 210 = .ok (.bipush 26, 2) := by decide +kernel
theorem dX7_work_212 : decode cX7_work 212 = .ok (.if_icmp .ne 32, 3) := by decide +kernel
theorem dX7_work_215 : decode cX7_work 215 = .ok (.iload 7, 2) := by decide +kernel
theorem dX7_work_217 : decode cX7_work 217 = .ok (.iload 10, 2) := by decide +kernel
theorem dX7_work_219 : decode cX7_work 219 = .ok (.aload_n 0, 1) := by decide +kernel
theorem dX7_work_220 : decode cX7_work 220 = .ok (.getfield 22, 3) := by decide +kernel
theorem dX7_work_223 : decode cX7_work 223 = .ok (.iload 9, 2) := by decide +kernel
theorem dX7_work_225 : decode cX7_work 225 = .ok (.invokevirtual 42, 3) := by decide +kernel
theorem dX7_work_228 : decode cX7_work 228 = .ok (.aload_n 2, 1) := by decide +kernel
theorem dX7_work_229 : decode cX7_work 229 = .ok (.iload_n 3, 1) := by decide +kernel
theorem dX7_work_230 : decode cX7_work 230 = .ok (.iload 4, 2) := by decide +kernel
theorem dX7_work_232 : decode cX7_work 232 = .ok (.invokestatic 45, 3) := by decide +kernel
theorem dX7_work_235 : decode cX7_work 235 = .ok (.imul, 1) := by decide +kernel
theorem dX7_work_236 : decode cX7_work 236 = .ok (.istore 7, 2) := by decide +kernel
theorem dX7_work_238 : decode cX7_work 238 = .ok (.iconst 0, 1) := by decide +kernel
theorem dX7_work_239 : decode cX7_work 239 = .ok (.istore 8, 2) := by decide +kernel
theorem dX7_work_241 : decode cX7_work 241 = .ok (.goto 16, 3) := by decide +kernel
theorem dX7_work_244 : decode cX7_work 244 = .ok (.iload 10, 2) := by decide +kernel
theorem dX7_work_246 : decode cX7_work 246 = .ok (.bipush 36, 2) := by decide +kernel
theorem dX7_work_248 : decode cX7_work 248 = .ok (.if_icmp .eq 9, 3) := by decide +kernel
theorem dX7_work_251 : decode cX7_work 251 = .ok (.iload 6, 2) := by decide +kernel
theorem dX7_work_253 : decode cX7_work 253 = .ok (.iload 7, 2) := by decide +kernel
theorem dX7_work_255 : decode cX7_work 255 = .ok (.iadd, 1) := by decide +kernel
theorem dX7_work_256 : decode cX7_work 256 = .ok (.ireturn, 1) := by decide +kernel
theorem dX7_work_257 : decode cX7_work 257 = .ok (.iinc 9 1, 3) := by decide +kernel
theorem dX7_work_260 : decode cX7_work 260 = .ok (.goto (-241), 3) := by decide +kernel
theorem dX7_work_263 : decode cX7_work 263 = .ok (.iload 6, 2) := by decide +kernel
theorem dX7_work_265 : decode cX7_work 265 = .ok (.iload 7, 2) := by decide +kernel
theorem dX7_work_267 : decode cX7_work 267 = .ok (.iadd, 1) := by decide +kernel
theorem dX7_work_268 : decode cX7_work 268 = .ok (.ireturn, 1) := by decide +kernel
theorem dX7_unit_0 : decode cX7_unit 0 = .ok (.iload_n 0, 1) := by decide +kernel
theorem dX7_unit_1 : decode cX7_unit 1 = .ok (.tableswitch 50 25 27 #[45, 47, 27], 27) := by decide +kernel
theorem dX7_unit_28 : decode cX7_unit 28 = .ok (.iload_n 1, 1) := by decide +kernel
theorem dX7_unit_29 : decode cX7_unit 29 = .ok (.ifCond .lt 15, 3) := by decide +kernel
theorem dX7_unit_32 : decode cX7_unit 32 = .ok (.iload_n 1, 1) := by decide +kernel
theorem dX7_unit_33 : decode cX7_unit 33 = .ok (.aload_n 2, 1) := by decide +kernel
theorem dX7_unit_34 : decode cX7_unit 34 = .ok (.arraylength, 1) := by decide +kernel
theorem dX7_unit_35 : decode cX7_unit 35 = .ok (.if_icmp .ge 9, 3) := by decide +kernel
theorem dX7_unit_38 : decode cX7_unit 38 = .ok (.aload_n 2, 1) := by decide +kernel
theorem dX7_unit_39 : decode cX7_unit 39 = .ok (.iload_n 1, 1) := by decide +kernel
theorem dX7_unit_40 : decode cX7_unit 40 = .ok (.iaload, 1) := by decide +kernel
theorem dX7_unit_41 : decode cX7_unit 41 = .ok (.goto 4, 3) := by decide +kernel
theorem dX7_unit_44 : decode cX7_unit 44 = .ok (.iconst 0, 1) := by decide +kernel
theorem dX7_unit_45 : decode cX7_unit 45 = .ok (.ireturn, 1) := by decide +kernel
theorem dX7_unit_46 : decode cX7_unit 46 = .ok (.iload_n 3, 1) := by decide +kernel
theorem dX7_unit_47 : decode cX7_unit 47 = .ok (.ireturn, 1) := by decide +kernel
theorem dX7_unit_48 : decode cX7_unit 48 = .ok (.iload 4, 2) := by decide +kernel
theorem dX7_unit_50 : decode cX7_unit 50 = .ok (.ireturn, 1) := by decide +kernel
theorem dX7_unit_51 : decode cX7_unit 51 = .ok (.iload_n 1, 1) := by decide +kernel
theorem dX7_unit_52 : decode cX7_unit 52 = .ok (.ireturn, 1) := by decide +kernel
theorem dX8_init_0 : decode cX8_init 0 = .ok (.aload_n 0, 1) := by decide +kernel
theorem dX8_init_1 : decode cX8_init 1 = .ok (.invokespecial 3, 3) := by decide +kernel
theorem dX8_init_4 : decode cX8_init 4 = .ok (.aload_n 0, 1) := by decide +kernel
theorem dX8_init_5 : decode cX8_init 5 = .ok (.bipush 16, 2) := by decide +kernel
theorem dX8_init_7 : decode cX8_init 7 = .ok (.newarray .int, 2) := by decide +kernel
theorem dX8_init_9 : decode cX8_init 9 = .ok (.putfield 9, 3) := by decide +kernel
theorem dX8_init_12 : decode cX8_init 12 = .ok (.aload_n 0, 1) := by decide +kernel
theorem dX8_init_13 : decode cX8_init 13 = .ok (.bipush 16, 2) := by decide +kernel
theorem dX8_init_15 : decode cX8_init 15 = .ok (.newarray .int, 2) := by decide +kernel
theorem dX8_init_17 : decode cX8_init 17 = .ok (.putfield 15, 3) := by decide +kernel
theorem dX8_init_20 : decode cX8_init 20 = .ok (.aload_n 0, 1) := by decide +kernel
theorem dX8_init_21 : decode cX8_init 21 = .ok (.bipush 16, 2) := by decide +kernel
theorem dX8_init_23 : decode cX8_init 23 = .ok (.newarray .int, 2) := by decide +kernel
theorem dX8_init_25 : decode cX8_init 25 = .ok (.putfield 18, 3) := by decide +kernel
theorem dX8_init_28 : decode cX8_init 28 = .ok (.aload_n 0, 1) := by decide +kernel
theorem dX8_init_29 : decode cX8_init 29 = .ok (.bipush 16, 2) := by decide +kernel
theorem dX8_init_31 : decode cX8_init 31 = .ok (.newarray .int, 2) := by decide +kernel
theorem dX8_init_33 : decode cX8_init 33 = .ok (.putfield 21, 3) := by decide +kernel
theorem dX8_init_36 : decode cX8_init 36 = .ok (.aload_n 0, 1) := by decide +kernel
theorem dX8_init_37 : decode cX8_init 37 = .ok (.aload_n 1, 1) := by decide +kernel
theorem dX8_init_38 : decode cX8_init 38 = .ok (.putfield 24, 3) := by decide +kernel
theorem dX8_init_41 : decode cX8_init 41 = .ok (.return_, 1) := by decide +kernel
theorem dX8_clear_0 : decode cX8_clear 0 = .ok (.iconst 0, 1) := by decide +kernel
theorem dX8_clear_1 : decode cX8_clear 1 = .ok (.istore_n 1, 1) := by decide +kernel
theorem dX8_clear_2 : decode cX8_clear 2 = .ok (.iload_n 1, 1) := by decide +kernel
theorem dX8_clear_3 : decode cX8_clear 3 = .ok (.aload_n 0, 1) := by decide +kernel
theorem dX8_clear_4 : decode cX8_clear 4 = .ok (.getfield 9, 3) := by decide +kernel
theorem dX8_clear_7 : decode cX8_clear 7 = .ok (.arraylength, 1) := by decide +kernel
theorem dX8_clear_8 : decode cX8_clear 8 = .ok (.if_icmp .ge 37, 3) := by decide +kernel
theorem dX8_clear_11 : decode cX8_clear 11 = .ok (.aload_n 0, 1) := by decide +kernel
theorem dX8_clear_12 : decode cX8_clear 12 = .ok (.getfield 9, 3) := by decide +kernel
theorem dX8_clear_15 : decode cX8_clear 15 = .ok (.iload_n 1, 1) := by decide +kernel
theorem dX8_clear_16 : decode cX8_clear 16 = .ok (.iconst 0, 1) := by decide +kernel
theorem dX8_clear_17 : decode cX8_clear 17 = .ok (.iastore, 1) := by decide +kernel
theorem dX8_clear_18 : decode cX8_clear 18 = .ok (.aload_n 0, 1) := by decide +kernel
theorem dX8_clear_19 : decode cX8_clear 19 = .ok (.getfield 15, 3) := by decide +kernel
theorem dX8_clear_22 : decode cX8_clear 22 = .ok (.iload_n 1, 1) := by decide +kernel
theorem dX8_clear_23 : decode cX8_clear 23 = .ok (.iconst 0, 1) := by decide +kernel
theorem dX8_clear_24 : decode cX8_clear 24 = .ok (.iastore, 1) := by decide +kernel
theorem dX8_clear_25 : decode cX8_clear 25 = .ok (.aload_n 0, 1) := by decide +kernel
theorem dX8_clear_26 : decode cX8_clear 26 = .ok (.getfield 18, 3) := by decide +kernel
theorem dX8_clear_29 : decode cX8_clear 29 = .ok (.iload_n 1, 1) := by decide +kernel
theorem dX8_clear_30 : decode cX8_clear 30 = .ok (.iconst 0, 1) := by decide +kernel
theorem dX8_clear_31 : decode cX8_clear 31 = .ok (.iastore, 1) := by decide +kernel
theorem dX8_clear_32 : decode cX8_clear 32 = .ok (.aload_n 0, 1) := by decide +kernel
theorem dX8_clear_33 : decode cX8_clear 33 = .ok (.getfield 21, 3) := by decide +kernel
theorem dX8_clear_36 : decode cX8_clear 36 = .ok (.iload_n 1, 1) := by decide +kernel
theorem dX8_clear_37 : decode cX8_clear 37 = .ok (.iconst 0, 1) := by decide +kernel
theorem dX8_clear_38 : decode cX8_clear 38 = .ok (.iastore, 1) := by decide +kernel
theorem dX8_clear_39 : decode cX8_clear 39 = .ok (.iinc 1 1, 3) := by decide +kernel
theorem dX8_clear_42 : decode cX8_clear 42 = .ok (.goto (-40), 3) := by decide +kernel
theorem dX8_clear_45 : decode cX8_clear 45 = .ok (.return_, 1) := by decide +kernel
theorem dX8_take_0 : decode cX8_take 0 = .ok (.aload_n 0, 1) := by decide +kernel
theorem dX8_take_1 : decode cX8_take 1 = .ok (.getfield 24, 3) := by decide +kernel
theorem dX8_take_4 : decode cX8_take 4 = .ok (.iconst 0, 1) := by decide +kernel
theorem dX8_take_5 : decode cX8_take 5 = .ok (.iload_n 1, 1) := by decide +kernel
theorem dX8_take_6 : decode cX8_take 6 = .ok (.invokevirtual 28, 3) := by decide +kernel
theorem dX8_take_9 : decode cX8_take 9 = .ok (.ifCond .eq 12, 3) := by decide +kernel
theorem dX8_take_12 : decode cX8_take 12 = .ok (.iload_n 1, 1) := by decide +kernel
theorem dX8_take_13 : decode cX8_take 13 = .ok (.aload_n 0, 1) := by decide +kernel
theorem dX8_take_14 : decode cX8_take 14 = .ok (.getfield 9, 3) := by decide +kernel
theorem dX8_take_17 : decode cX8_take 17 = .ok (.arraylength, 1) := by decide +kernel
theorem dX8_take_18 : decode cX8_take 18 = .ok (.if_icmp .lt 5, 3) := by decide +kernel
theorem dX8_take_21 : decode cX8_take 21 = .ok (.iconst 0, 1) := by decide +kernel
theorem dX8_take_22 : decode cX8_take 22 = .ok (.ireturn, 1) := by decide +kernel
theorem dX8_take_23 : decode cX8_take 23 = .ok (.aload_n 0, 1) := by decide +kernel
theorem dX8_take_24 : decode cX8_take 24 = .ok (.getfield 15, 3) := by decide +kernel
theorem dX8_take_27 : decode cX8_take 27 = .ok (.iload_n 1, 1) := by decide +kernel
theorem dX8_take_28 : decode cX8_take 28 = .ok (.dup2, 1) := by decide +kernel
theorem dX8_take_29 : decode cX8_take 29 = .ok (.iaload, 1) := by decide +kernel
theorem dX8_take_30 : decode cX8_take 30 = .ok (.iconst 1, 1) := by decide +kernel
theorem dX8_take_31 : decode cX8_take 31 = .ok (.iadd, 1) := by decide +kernel
theorem dX8_take_32 : decode cX8_take 32 = .ok (.iastore, 1) := by decide +kernel
theorem dX8_take_33 : decode cX8_take 33 = .ok (.iload_n 3, 1) := by decide +kernel
theorem dX8_take_34 : decode cX8_take 34 = .ok (.ifCond .eq 32, 3) := by decide +kernel
theorem dX8_take_37 : decode cX8_take 37 = .ok (.aload_n 0, 1) := by decide +kernel
theorem dX8_take_38 : decode cX8_take 38 = .ok (.getfield 9, 3) := by decide +kernel
theorem dX8_take_41 : decode cX8_take 41 = .ok (.iload_n 1, 1) := by decide +kernel
theorem dX8_take_42 : decode cX8_take 42 = .ok (.iaload, 1) := by decide +kernel
theorem dX8_take_43 : decode cX8_take 43 = .ok (.ifCond .le 25, 3) := by decide +kernel
theorem dX8_take_46 : decode cX8_take 46 = .ok (.iload_n 2, 1) := by decide +kernel
theorem dX8_take_47 : decode cX8_take 47 = .ok (.aload_n 0, 1) := by decide +kernel
theorem dX8_take_48 : decode cX8_take 48 = .ok (.getfield 18, 3) := by decide +kernel
theorem dX8_take_51 : decode cX8_take 51 = .ok (.iload_n 1, 1) := by decide +kernel
theorem dX8_take_52 : decode cX8_take 52 = .ok (.iaload, 1) := by decide +kernel
theorem dX8_take_53 : decode cX8_take 53 = .ok (.isub, 1) := by decide +kernel
theorem dX8_take_54 : decode cX8_take 54 = .ok (.aload_n 0, 1) := by decide +kernel
theorem dX8_take_55 : decode cX8_take 55 = .ok (.getfield 24, 3) := by decide +kernel
theorem dX8_take_58 : decode cX8_take 58 = .ok (.getfield 34, 3) := by decide +kernel
theorem dX8_take_61 : decode cX8_take 61 = .ok (.iload_n 1, 1) := by decide +kernel
theorem dX8_take_62 : decode cX8_take 62 = .ok (.iaload, 1) := by decide +kernel
theorem dX8_take_63 : decode cX8_take 63 = .ok (.if_icmp .ge 5, 3) := by decide +kernel
theorem dX8_take_66 : decode cX8_take 66 = .ok (.iconst 0, 1) := by decide +kernel
theorem dX8_take_67 : decode cX8_take 67 = .ok (.ireturn, 1) := by decide +kernel
theorem dX8_take_68 : decode cX8_take 68 = .ok (.aload_n 0, 1) := by decide +kernel
theorem dX8_take_69 : decode cX8_take 69 = .ok (.getfield 9, 3) := by decide +kernel
theorem dX8_take_72 : decode cX8_take 72 = .ok (.iload_n 1, 1) := by decide +kernel
theorem dX8_take_73 : decode cX8_take 73 = .ok (.dup2, 1) := by decide +kernel
theorem dX8_take_74 : decode cX8_take 74 = .ok (.iaload, 1) := by decide +kernel
theorem dX8_take_75 : decode cX8_take 75 = .ok (.iconst 1, 1) := by decide +kernel
theorem dX8_take_76 : decode cX8_take 76 = .ok (.iadd, 1) := by decide +kernel
theorem dX8_take_77 : decode cX8_take 77 = .ok (.iastore, 1) := by decide +kernel
theorem dX8_take_78 : decode cX8_take 78 = .ok (.aload_n 0, 1) := by decide +kernel
theorem dX8_take_79 : decode cX8_take 79 = .ok (.getfield 18, 3) := by decide +kernel
theorem dX8_take_82 : decode cX8_take 82 = .ok (.iload_n 1, 1) := by decide +kernel
theorem dX8_take_83 : decode cX8_take 83 = .ok (.iload_n 2, 1) := by decide +kernel
theorem dX8_take_84 : decode cX8_take 84 = .ok (.iastore, 1) := by decide +kernel
theorem dX8_take_85 : decode cX8_take 85 = .ok (.aload_n 0, 1) := by decide +kernel
theorem dX8_take_86 : decode cX8_take 86 = .ok (.getfield 21, 3) := by decide +kernel
theorem dX8_take_89 : decode cX8_take 89 = .ok (.iload_n 1, 1) := by decide +kernel
theorem dX8_take_90 : decode cX8_take 90 = .ok (.iload_n 3, 1) := by decide +kernel
theorem dX8_take_91 : decode cX8_take 91 = .ok (.iastore, 1) := by decide +kernel
theorem dX8_take_92 : decode cX8_take 92 = .ok (.iconst 1, 1) := by decide +kernel
theorem dX8_take_93 : decode cX8_take 93 = .ok (.ireturn, 1) := by decide +kernel
theorem dX8_isStuck_0 : decode cX8_isStuck 0 = .ok (.iload_n 1, 1) := by decide +kernel
theorem dX8_isStuck_1 : decode cX8_isStuck 1 = .ok (.ifCond .lt 33, 3) := by decide +kernel
theorem dX8_isStuck_4 : decode cX8_isStuck 4 = .ok (.iload_n 1, 1) := by decide +kernel
theorem dX8_isStuck_5 : decode cX8_isStuck 5 = .ok (.aload_n 0, 1) := by decide +kernel
theorem dX8_isStuck_6 : decode cX8_isStuck 6 = .ok (.getfield 21, 3) := by decide +kernel
theorem dX8_isStuck_9 : decode cX8_isStuck 9 = .ok (.arraylength, 1) := by decide +kernel
theorem dX8_isStuck_10 : decode cX8_isStuck 10 = .ok (.if_icmp .ge 24, 3) := by decide +kernel
theorem dX8_isStuck_13 : decode cX8_isStuck 13 = .ok (.iload_n 2, 1) := by decide +kernel
theorem dX8_isStuck_14 : decode cX8_isStuck 14 = .ok (.iconst 2, 1) := by decide +kernel
theorem dX8_isStuck_15 : decode cX8_isStuck 15 = .ok (.if_icmp .lt 19, 3) := by decide +kernel
theorem dX8_isStuck_18 : decode cX8_isStuck 18 = .ok (.aload_n 0, 1) := by decide +kernel
theorem dX8_isStuck_19 : decode cX8_isStuck 19 = .ok (.getfield 21, 3) := by decide +kernel
theorem dX8_isStuck_22 : decode cX8_isStuck 22 = .ok (.iload_n 1, 1) := by decide +kernel
theorem dX8_isStuck_23 : decode cX8_isStuck 23 = .ok (.iaload, 1) := by decide +kernel
theorem dX8_isStuck_24 : decode cX8_isStuck 24 = .ok (.iload_n 2, 1) := by decide +kernel
theorem dX8_isStuck_25 : decode cX8_isStuck 25 = .ok (.iconst 1, 1) := by decide +kernel
theorem dX8_isStuck_26 : decode cX8_isStuck 26 = .ok (.isub, 1) := by decide +kernel
theorem dX8_isStuck_27 : decode cX8_isStuck 27 = .ok (.if_icmp .ge 7, 3) := by decide +kernel
theorem dX8_isStuck_30 : decode cX8_isStuck 30 = .ok (.iconst 1, 1) := by decide +kernel
theorem dX8_isStuck_31 : decode cX8_isStuck 31 = .ok (.goto 4, 3) := by decide +kernel
theorem dX8_isStuck_34 : decode cX8_isStuck 34 = .ok (.iconst 0, 1) := by decide +kernel
theorem dX8_isStuck_35 : decode cX8_isStuck 35 = .ok (.ireturn, 1) := by decide +kernel
theorem dX9_init_0 : decode cX9_init 0 = .ok (.aload_n 0, 1) := by decide +kernel
theorem dX9_init_1 : decode cX9_init 1 = .ok (.invokespecial 3, 3) := by decide +kernel
theorem dX9_init_4 : decode cX9_init 4 = .ok (.aload_n 0, 1) := by decide +kernel
theorem dX9_init_5 : decode cX9_init 5 = .ok (.bipush 27, 2) := by decide +kernel
theorem dX9_init_7 : decode cX9_init 7 = .ok (.newarray .int, 2) := by decide +kernel
theorem dX9_init_9 : decode cX9_init 9 = .ok (.putfield 9, 3) := by decide +kernel
theorem dX9_init_12 : decode cX9_init 12 = .ok (.aload_n 0, 1) := by decide +kernel
theorem dX9_init_13 : decode cX9_init 13 = .ok (.bipush 16, 2) := by decide +kernel
theorem dX9_init_15 : decode cX9_init 15 = .ok (.newarray .int, 2) := by decide +kernel
theorem dX9_init_17 : decode cX9_init 17 = .ok (.putfield 15, 3) := by decide +kernel
theorem dX9_init_20 : decode cX9_init 20 = .ok (.aload_n 0, 1) := by decide +kernel
theorem dX9_init_21 : decode cX9_init 21 = .ok (.bipush 8, 2) := by decide +kernel
theorem dX9_init_23 : decode cX9_init 23 = .ok (.newarray .int, 2) := by decide +kernel
theorem dX9_init_25 : decode cX9_init 25 = .ok (.putfield 18, 3) := by decide +kernel
theorem dX9_init_28 : decode cX9_init 28 = .ok (.aload_n 0, 1) := by decide +kernel
theorem dX9_init_29 : decode cX9_init 29 = .ok (.bipush 8, 2) := by decide +kernel
theorem dX9_init_31 : decode cX9_init 31 = .ok (.newarray .int, 2) := by decide +kernel
theorem dX9_init_33 : decode cX9_init 33 = .ok (.putfield 21, 3) := by decide +kernel
theorem dX9_init_36 : decode cX9_init 36 = .ok (.aload_n 0, 1) := by decide +kernel
theorem dX9_init_37 : decode cX9_init 37 = .ok (.bipush 16, 2) := by decide +kernel
theorem dX9_init_39 : decode cX9_init 39 = .ok (.newarray .int, 2) := by decide +kernel
theorem dX9_init_41 : decode cX9_init 41 = .ok (.putfield 24, 3) := by decide +kernel
theorem dX9_init_44 : decode cX9_init 44 = .ok (.aload_n 0, 1) := by decide +kernel
theorem dX9_init_45 : decode cX9_init 45 = .ok (.bipush 24, 2) := by decide +kernel
theorem dX9_init_47 : decode cX9_init 47 = .ok (.newarray .int, 2) := by decide +kernel
theorem dX9_init_49 : decode cX9_init 49 = .ok (.putfield 27, 3) := by decide +kernel
theorem dX9_init_52 : decode cX9_init 52 = .ok (.aload_n 0, 1) := by decide +kernel
theorem dX9_init_53 : decode cX9_init 53 = .ok (.bipush 24, 2) := by decide +kernel
theorem dX9_init_55 : decode cX9_init 55 = .ok (.newarray .int, 2) := by decide +kernel
theorem dX9_init_57 : decode cX9_init 57 = .ok (.putfield 30, 3) := by decide +kernel
theorem dX9_init_60 : decode cX9_init 60 = .ok (.aload_n 0, 1) := by decide +kernel
theorem dX9_init_61 : decode cX9_init 61 = .ok (.bipush 24, 2) := by decide +kernel
theorem dX9_init_63 : decode cX9_init 63 = .ok (.newarray .int, 2) := by decide +kernel
theorem dX9_init_65 : decode cX9_init 65 = .ok (.putfield 33, 3) := by decide +kernel
theorem dX9_init_68 : decode cX9_init 68 = .ok (.aload_n 0, 1) := by decide +kernel
theorem dX9_init_69 : decode cX9_init 69 = .ok (.bipush 16, 2) := by decide +kernel
theorem dX9_init_71 : decode cX9_init 71 = .ok (.newarray .int, 2) := by decide +kernel
theorem dX9_init_73 : decode cX9_init 73 = .ok (.putfield 36, 3) := by decide +kernel
theorem dX9_init_76 : decode cX9_init 76 = .ok (.aload_n 0, 1) := by decide +kernel
theorem dX9_init_77 : decode cX9_init 77 = .ok (.bipush 12, 2) := by decide +kernel
theorem dX9_init_79 : decode cX9_init 79 = .ok (.newarray .int, 2) := by decide +kernel
theorem dX9_init_81 : decode cX9_init 81 = .ok (.putfield 39, 3) := by decide +kernel
theorem dX9_init_84 : decode cX9_init 84 = .ok (.aload_n 0, 1) := by decide +kernel
theorem dX9_init_85 : decode cX9_init 85 = .ok (.bipush 12, 2) := by decide +kernel
theorem dX9_init_87 : decode cX9_init 87 = .ok (.newarray .int, 2) := by decide +kernel
theorem dX9_init_89 : decode cX9_init 89 = .ok (.putfield 42, 3) := by decide +kernel
theorem dX9_init_92 : decode cX9_init 92 = .ok (.aload_n 0, 1) := by decide +kernel
theorem dX9_init_93 : decode cX9_init 93 = .ok (.bipush 12, 2) := by decide +kernel
theorem dX9_init_95 : decode cX9_init 95 = .ok (.newarray .int, 2) := by decide +kernel
theorem dX9_init_97 : decode cX9_init 97 = .ok (.putfield 45, 3) := by decide +kernel
theorem dX9_init_100 : decode cX9_init 100 = .ok (.aload_n 0, 1) := by decide +kernel
theorem dX9_init_101 : decode cX9_init 101 = .ok (.new 48, 3) := by decide +kernel
theorem dX9_init_104 : decode cX9_init 104 = .ok (.dup, 1) := by decide +kernel
theorem dX9_init_105 : decode cX9_init 105 = .ok (.invokespecial 50, 3) := by decide +kernel
theorem dX9_init_108 : decode cX9_init 108 = .ok (.putfield 51, 3) := by decide +kernel
theorem dX9_init_111 : decode cX9_init 111 = .ok (.return_, 1) := by decide +kernel
theorem dX9_roomFor_0 : decode cX9_roomFor 0 = .ok (.iload_n 0, 1) := by decide +kernel
theorem dX9_roomFor_1 : decode cX9_roomFor 1 = .ok (.tableswitch 64 0 6 #[43, 46, 49, 52, 55, 58, 61], 43) := by decide +kernel
theorem dX9_roomFor_44 : decode cX9_roomFor 44 = .ok (.bipush 16, 2) := by decide +kernel
theorem dX9_roomFor_46 : decode cX9_roomFor 46 = .ok (.ireturn, 1) := by decide +kernel
theorem dX9_roomFor_47 : decode cX9_roomFor 47 = .ok (.bipush 8, 2) := by decide +kernel
theorem dX9_roomFor_49 : decode cX9_roomFor 49 = .ok (.ireturn, 1) := by decide +kernel
theorem dX9_roomFor_50 : decode cX9_roomFor 50 = .ok (.bipush 8, 2) := by decide +kernel
theorem dX9_roomFor_52 : decode cX9_roomFor 52 = .ok (.ireturn, 1) := by decide +kernel
theorem dX9_roomFor_53 : decode cX9_roomFor 53 = .ok (.bipush 16, 2) := by decide +kernel
theorem dX9_roomFor_55 : decode cX9_roomFor 55 = .ok (.ireturn, 1) := by decide +kernel
theorem dX9_roomFor_56 : decode cX9_roomFor 56 = .ok (.bipush 8, 2) := by decide +kernel
theorem dX9_roomFor_58 : decode cX9_roomFor 58 = .ok (.ireturn, 1) := by decide +kernel
theorem dX9_roomFor_59 : decode cX9_roomFor 59 = .ok (.bipush 24, 2) := by decide +kernel
theorem dX9_roomFor_61 : decode cX9_roomFor 61 = .ok (.ireturn, 1) := by decide +kernel
theorem dX9_roomFor_62 : decode cX9_roomFor 62 = .ok (.bipush 16, 2) := by decide +kernel
theorem dX9_roomFor_64 : decode cX9_roomFor 64 = .ok (.ireturn, 1) := by decide +kernel
theorem dX9_roomFor_65 : decode cX9_roomFor 65 = .ok (.bipush 12, 2) := by decide +kernel
theorem dX9_roomFor_67 : decode cX9_roomFor 67 = .ok (.ireturn, 1) := by decide +kernel
theorem dX9_has_0 : decode cX9_has 0 = .ok (.iload_n 1, 1) := by decide +kernel
theorem dX9_has_1 : decode cX9_has 1 = .ok (.ifCond .lt 30, 3) := by decide +kernel
theorem dX9_has_4 : decode cX9_has 4 = .ok (.iload_n 1, 1) := by decide +kernel
theorem dX9_has_5 : decode cX9_has 5 = .ok (.aload_n 0, 1) := by decide +kernel
theorem dX9_has_6 : decode cX9_has 6 = .ok (.getfield 9, 3) := by decide +kernel
theorem dX9_has_9 : decode cX9_has 9 = .ok (.arraylength, 1) := by decide +kernel
theorem dX9_has_10 : decode cX9_has 10 = .ok (.if_icmp .ge 21, 3) := by decide +kernel
theorem dX9_has_13 : decode cX9_has 13 = .ok (.iload_n 2, 1) := by decide +kernel
theorem dX9_has_14 : decode cX9_has 14 = .ok (.ifCond .lt 17, 3) := by decide +kernel
theorem dX9_has_17 : decode cX9_has 17 = .ok (.iload_n 2, 1) := by decide +kernel
theorem dX9_has_18 : decode cX9_has 18 = .ok (.aload_n 0, 1) := by decide +kernel
theorem dX9_has_19 : decode cX9_has 19 = .ok (.getfield 9, 3) := by decide +kernel
theorem dX9_has_22 : decode cX9_has 22 = .ok (.iload_n 1, 1) := by decide +kernel
theorem dX9_has_23 : decode cX9_has 23 = .ok (.iaload, 1) := by decide +kernel
theorem dX9_has_24 : decode cX9_has 24 = .ok (.if_icmp .ge 7, 3) := by decide +kernel
theorem dX9_has_27 : decode cX9_has 27 = .ok (.iconst 1, 1) := by decide +kernel
theorem dX9_has_28 : decode cX9_has 28 = .ok (.goto 4, 3) := by decide +kernel
theorem dX9_has_31 : decode cX9_has 31 = .ok (.iconst 0, 1) := by decide +kernel
theorem dX9_has_32 : decode cX9_has 32 = .ok (.ireturn, 1) := by decide +kernel
theorem dX9_takeFrom_0 : decode cX9_takeFrom 0 = .ok (.iconst 0, 1) := by decide +kernel
theorem dX9_takeFrom_1 : decode cX9_takeFrom 1 = .ok (.istore_n 2, 1) := by decide +kernel
theorem dX9_takeFrom_2 : decode cX9_takeFrom 2 = .ok (.iload_n 2, 1) := by decide +kernel
theorem dX9_takeFrom_3 : decode cX9_takeFrom 3 = .ok (.aload_n 0, 1) := by decide +kernel
theorem dX9_takeFrom_4 : decode cX9_takeFrom 4 = .ok (.getfield 9, 3) := by decide +kernel
theorem dX9_takeFrom_7 : decode cX9_takeFrom 7 = .ok (.arraylength, 1) := by decide +kernel
theorem dX9_takeFrom_8 : decode cX9_takeFrom 8 = .ok (.if_icmp .ge 16, 3) := by decide +kernel
theorem dX9_takeFrom_11 : decode cX9_takeFrom 11 = .ok (.aload_n 0, 1) := by decide +kernel
theorem dX9_takeFrom_12 : decode cX9_takeFrom 12 = .ok (.getfield 9, 3) := by decide +kernel
theorem dX9_takeFrom_15 : decode cX9_takeFrom 15 = .ok (.iload_n 2, 1) := by decide +kernel
theorem dX9_takeFrom_16 : decode cX9_takeFrom 16 = .ok (.iconst 0, 1) := by decide +kernel
theorem dX9_takeFrom_17 : decode cX9_takeFrom 17 = .ok (.iastore, 1) := by decide +kernel
theorem dX9_takeFrom_18 : decode cX9_takeFrom 18 = .ok (.iinc 2 1, 3) := by decide +kernel
theorem dX9_takeFrom_21 : decode cX9_takeFrom 21 = .ok (.goto (-19), 3) := by decide +kernel
theorem dX9_takeFrom_24 : decode cX9_takeFrom 24 = .ok (.iconst 0, 1) := by decide +kernel
theorem dX9_takeFrom_25 : decode cX9_takeFrom 25 = .ok (.istore_n 2, 1) := by decide +kernel
theorem dX9_takeFrom_26 : decode cX9_takeFrom 26 = .ok (.iload_n 2, 1) := by decide +kernel
theorem dX9_takeFrom_27 : decode cX9_takeFrom 27 = .ok (.aload_n 0, 1) := by decide +kernel
theorem dX9_takeFrom_28 : decode cX9_takeFrom 28 = .ok (.getfield 21, 3) := by decide +kernel
theorem dX9_takeFrom_31 : decode cX9_takeFrom 31 = .ok (.arraylength, 1) := by decide +kernel
theorem dX9_takeFrom_32 : decode cX9_takeFrom 32 = .ok (.if_icmp .ge 16, 3) := by decide +kernel
theorem dX9_takeFrom_35 : decode cX9_takeFrom 35 = .ok (.aload_n 0, 1) := by decide +kernel
theorem dX9_takeFrom_36 : decode cX9_takeFrom 36 = .ok (.getfield 21, 3) := by decide +kernel
theorem dX9_takeFrom_39 : decode cX9_takeFrom 39 = .ok (.iload_n 2, 1) := by decide +kernel
theorem dX9_takeFrom_40 : decode cX9_takeFrom 40 = .ok (.iconst 0, 1) := by decide +kernel
theorem dX9_takeFrom_41 : decode cX9_takeFrom 41 = .ok (.iastore, 1) := by decide +kernel
theorem dX9_takeFrom_42 : decode cX9_takeFrom 42 = .ok (.iinc 2 1, 3) := by decide +kernel
theorem dX9_takeFrom_45 : decode cX9_takeFrom 45 = .ok (.goto (-19), 3) := by decide +kernel
theorem dX9_takeFrom_48 : decode cX9_takeFrom 48 = .ok (.iconst 0, 1) := by decide +kernel
theorem dX9_takeFrom_49 : decode cX9_takeFrom 49 = .ok (.istore_n 2, 1) := by decide +kernel
theorem dX9_takeFrom_50 : decode cX9_takeFrom 50 = .ok (.iload_n 2, 1) := by decide +kernel
theorem dX9_takeFrom_51 : decode cX9_takeFrom 51 = .ok (.aload_n 1, 1) := by decide +kernel
theorem dX9_takeFrom_52 : decode cX9_takeFrom 52 = .ok (.invokevirtual 55, 3) := by decide +kernel
theorem dX9_takeFrom_55 : decode cX9_takeFrom 55 = .ok (.if_icmp .ge 51, 3) := by decide +kernel
theorem dX9_takeFrom_58 : decode cX9_takeFrom 58 = .ok (.aload_n 1, 1) := by decide +kernel
theorem dX9_takeFrom_59 : decode cX9_takeFrom 59 = .ok (.iload_n 2, 1) := by decide +kernel
theorem dX9_takeFrom_60 : decode cX9_takeFrom 60 = .ok (.invokevirtual 61, 3) := by decide +kernel
theorem dX9_takeFrom_63 : decode cX9_takeFrom 63 = .ok (.istore_n 3, 1) := by decide +kernel
theorem dX9_takeFrom_64 : decode cX9_takeFrom 64 = .ok (.iload_n 3, 1) := by decide +kernel
theorem dX9_takeFrom_65 : decode cX9_takeFrom 65 = .ok (.bipush 7, 2) := by decide +kernel
theorem dX9_takeFrom_67 : decode cX9_takeFrom 67 = .ok (.if_icmp .gt 33, 3) := by decide +kernel
theorem dX9_takeFrom_70 : decode cX9_takeFrom 70 = .ok (.aload_n 0, 1) := by decide +kernel
theorem dX9_takeFrom_71 : decode cX9_takeFrom 71 = .ok (.getfield 9, 3) := by decide +kernel
theorem dX9_takeFrom_74 : decode cX9_takeFrom 74 = .ok (.iload_n 3, 1) := by decide +kernel
theorem dX9_takeFrom_75 : decode cX9_takeFrom 75 = .ok (.iaload, 1) := by decide +kernel
theorem dX9_takeFrom_76 : decode cX9_takeFrom 76 = .ok (.iload_n 3, 1) := by decide +kernel
theorem dX9_takeFrom_77 : decode cX9_takeFrom 77 = .ok (.invokestatic 65, 3) := by decide +kernel
theorem dX9_takeFrom_80 : decode cX9_takeFrom 80 = .ok (.if_icmp .ge 20, 3) := by decide +kernel
theorem dX9_takeFrom_83 : decode cX9_takeFrom 83 = .ok (.aload_n 0, 1) := by decide +kernel
theorem dX9_takeFrom_84 : decode cX9_takeFrom 84 = .ok (.aload_n 1, 1) := by decide +kernel
theorem dX9_takeFrom_85 : decode cX9_takeFrom 85 = .ok (.iload_n 2, 1) := by decide +kernel
theorem dX9_takeFrom_86 : decode cX9_takeFrom 86 = .ok (.iload_n 3, 1) := by decide +kernel
theorem dX9_takeFrom_87 : decode cX9_takeFrom 87 = .ok (.invokevirtual 68, 3) := by decide +kernel
theorem dX9_takeFrom_90 : decode cX9_takeFrom 90 = .ok (.aload_n 0, 1) := by decide +kernel
theorem dX9_takeFrom_91 : decode cX9_takeFrom 91 = .ok (.getfield 9, 3) := by decide +kernel
theorem dX9_takeFrom_94 : decode cX9_takeFrom 94 = .ok (.iload_n 3, 1) := by decide +kernel
theorem dX9_takeFrom_95 : decode cX9_takeFrom 95 = .ok (.dup2, 1) := by decide +kernel
theorem dX9_takeFrom_96 : decode cX9_takeFrom 96 = .ok (.iaload, 1) := by decide +kernel
theorem dX9_takeFrom_97 : decode cX9_takeFrom 97 = .ok (.iconst 1, 1) := by decide +kernel
theorem dX9_takeFrom_98 : decode cX9_takeFrom 98 = .ok (.iadd, 1) := by decide +kernel
theorem dX9_takeFrom_99 : decode cX9_takeFrom 99 = .ok (.iastore, 1) := by decide +kernel
theorem dX9_takeFrom_100 : decode cX9_takeFrom 100 = .ok (.iinc 2 1, 3) := by decide +kernel
theorem dX9_takeFrom_103 : decode cX9_takeFrom 103 = .ok (.goto (-53), 3) := by decide +kernel
theorem dX9_takeFrom_106 : decode cX9_takeFrom 106 = .ok (.aload_n 0, 1) := by decide +kernel
theorem dX9_takeFrom_107 : decode cX9_takeFrom 107 = .ok (.invokevirtual 72, 3) := by decide +kernel
theorem dX9_takeFrom_110 : decode cX9_takeFrom 110 = .ok (.aload_n 0, 1) := by decide +kernel
theorem dX9_takeFrom_111 : decode cX9_takeFrom 111 = .ok (.getfield 51, 3) := by decide +kernel
theorem dX9_takeFrom_114 : decode cX9_takeFrom 114 = .ok (.aload_n 1, 1) := by decide +kernel
theorem dX9_takeFrom_115 : decode cX9_takeFrom 115 = .ok (.invokevirtual 75, 3) := by decide +kernel
theorem dX9_takeFrom_118 : decode cX9_takeFrom 118 = .ok (.return_, 1) := by decide +kernel
theorem dX9_takeOne_0 : decode cX9_takeOne 0 = .ok (.aload_n 0, 1) := by decide +kernel
theorem dX9_takeOne_1 : decode cX9_takeOne 1 = .ok (.getfield 9, 3) := by decide +kernel
theorem dX9_takeOne_4 : decode cX9_takeOne 4 = .ok (.iload_n 3, 1) := by decide +kernel
theorem dX9_takeOne_5 : decode cX9_takeOne 5 = .ok (.iaload, 1) := by decide +kernel
theorem dX9_takeOne_6 : decode cX9_takeOne 6 = .ok (.istore 4, 2) := by decide +kernel
theorem dX9_takeOne_8 : decode cX9_takeOne 8 = .ok (.aload_n 1, 1) := by decide +kernel
theorem dX9_takeOne_9 : decode cX9_takeOne 9 = .ok (.iload_n 2, 1) := by decide +kernel
theorem dX9_takeOne_10 : decode cX9_takeOne 10 = .ok (.iconst 1, 1) := by decide +kernel
theorem dX9_takeOne_11 : decode cX9_takeOne 11 = .ok (.iadd, 1) := by decide +kernel
theorem dX9_takeOne_12 : decode cX9_takeOne 12 = .ok (.invokevirtual 79, 3) := by decide +kernel
theorem dX9_takeOne_15 : decode cX9_takeOne 15 = .ok (.istore 5, 2) := by decide +kernel
theorem dX9_takeOne_17 : decode cX9_takeOne 17 = .ok (.aload_n 1, 1) := by decide +kernel
theorem dX9_takeOne_18 : decode cX9_takeOne 18 = .ok (.iload_n 2, 1) := by decide +kernel
theorem dX9_takeOne_19 : decode cX9_takeOne 19 = .ok (.iconst 2, 1) := by decide +kernel
theorem dX9_takeOne_20 : decode cX9_takeOne 20 = .ok (.iadd, 1) := by decide +kernel
theorem dX9_takeOne_21 : decode cX9_takeOne 21 = .ok (.invokevirtual 79, 3) := by decide +kernel
theorem dX9_takeOne_24 : decode cX9_takeOne 24 = .ok (.istore 6, 2) := by decide +kernel
theorem dX9_takeOne_26 : decode cX9_takeOne 26 = .ok (.iload_n 3, 1) := by decide +kernel
theorem dX9_takeOne_27 : decode cX9_takeOne 27 = .ok (.ifCond .ne 25, 3) := by decide +kernel
theorem dX9_takeOne_30 : decode cX9_takeOne 30 = .ok (.iload 4, 2) := by decide +kernel
theorem dX9_takeOne_32 : decode cX9_takeOne 32 = .ok (.aload_n 0, 1) := by decide +kernel
theorem dX9_takeOne_33 : decode cX9_takeOne 33 = .ok (.getfield 15, 3) := by decide +kernel
theorem dX9_takeOne_36 : decode cX9_takeOne 36 = .ok (.arraylength, 1) := by decide +kernel
theorem dX9_takeOne_37 : decode cX9_takeOne 37 = .ok (.if_icmp .ge 15, 3) := by decide +kernel
theorem dX9_takeOne_40 : decode cX9_takeOne 40 = .ok (.aload_n 0, 1) := by decide +kernel
theorem dX9_takeOne_41 : decode cX9_takeOne 41 = .ok (.getfield 15, 3) := by decide +kernel
theorem dX9_takeOne_44 : decode cX9_takeOne 44 = .ok (.iload 4, 2) := by decide +kernel
theorem dX9_takeOne_46 : decode cX9_takeOne 46 = .ok (.iload 6, 2) := by decide +kernel
theorem dX9_takeOne_48 : decode cX9_takeOne 48 = .ok (.iastore, 1) := by decide +kernel
theorem dX9_takeOne_49 : decode cX9_takeOne 49 = .ok (.goto 222, 3) := by decide +kernel
theorem dX9_takeOne_52 : decode cX9_takeOne 52 = .ok (.iload_n 3, 1) := by decide +kernel
theorem dX9_takeOne_53 : decode cX9_takeOne 53 = .ok (.iconst 1, 1) := by decide +kernel
theorem dX9_takeOne_54 : decode cX9_takeOne 54 = .ok (.if_icmp .ne 25, 3) := by decide +kernel
theorem dX9_takeOne_57 : decode cX9_takeOne 57 = .ok (.iload 4, 2) := by decide +kernel
theorem dX9_takeOne_59 : decode cX9_takeOne 59 = .ok (.aload_n 0, 1) := by decide +kernel
theorem dX9_takeOne_60 : decode cX9_takeOne 60 = .ok (.getfield 18, 3) := by decide +kernel
theorem dX9_takeOne_63 : decode cX9_takeOne 63 = .ok (.arraylength, 1) := by decide +kernel
theorem dX9_takeOne_64 : decode cX9_takeOne 64 = .ok (.if_icmp .ge 15, 3) := by decide +kernel
theorem dX9_takeOne_67 : decode cX9_takeOne 67 = .ok (.aload_n 0, 1) := by decide +kernel
theorem dX9_takeOne_68 : decode cX9_takeOne 68 = .ok (.getfield 18, 3) := by decide +kernel
theorem dX9_takeOne_71 : decode cX9_takeOne 71 = .ok (.iload 4, 2) := by decide +kernel
theorem dX9_takeOne_73 : decode cX9_takeOne 73 = .ok (.iload 6, 2) := by decide +kernel
theorem dX9_takeOne_75 : decode cX9_takeOne 75 = .ok (.iastore, 1) := by decide +kernel
theorem dX9_takeOne_76 : decode cX9_takeOne 76 = .ok (.goto 195, 3) := by decide +kernel
theorem dX9_takeOne_79 : decode cX9_takeOne 79 = .ok (.iload_n 3, 1) := by decide +kernel
theorem dX9_takeOne_80 : decode cX9_takeOne 80 = .ok (.iconst 2, 1) := by decide +kernel
theorem dX9_takeOne_81 : decode cX9_takeOne 81 = .ok (.if_icmp .ne 14, 3) := by decide +kernel
theorem dX9_takeOne_84 : decode cX9_takeOne 84 = .ok (.aload_n 0, 1) := by decide +kernel
theorem dX9_takeOne_85 : decode cX9_takeOne 85 = .ok (.iload 5, 2) := by decide +kernel
theorem dX9_takeOne_87 : decode cX9_takeOne 87 = .ok (.iload 6, 2) := by decide +kernel
theorem dX9_takeOne_89 : decode cX9_takeOne 89 = .ok (.invokevirtual 82, 3) := by decide +kernel
theorem dX9_takeOne_92 : decode cX9_takeOne 92 = .ok (.goto 179, 3) := by decide +kernel
theorem dX9_takeOne_95 : decode cX9_takeOne 95 = .ok (.iload_n 3, 1) := by decide +kernel
theorem dX9_takeOne_96 : decode cX9_takeOne 96 = .ok (.iconst 3, 1) := by decide +kernel
theorem dX9_takeOne_97 : decode cX9_takeOne 97 = .ok (.if_icmp .ne 25, 3) := by decide +kernel
theorem dX9_takeOne_100 : decode cX9_takeOne 100 = .ok (.iload 4, 2) := by decide +kernel
theorem dX9_takeOne_102 : decode cX9_takeOne 102 = .ok (.aload_n 0, 1) := by decide +kernel
theorem dX9_takeOne_103 : decode cX9_takeOne 103 = .ok (.getfield 24, 3) := by decide +kernel
theorem dX9_takeOne_106 : decode cX9_takeOne 106 = .ok (.arraylength, 1) := by decide +kernel
theorem dX9_takeOne_107 : decode cX9_takeOne 107 = .ok (.if_icmp .ge 15, 3) := by decide +kernel
theorem dX9_takeOne_110 : decode cX9_takeOne 110 = .ok (.aload_n 0, 1) := by decide +kernel
theorem dX9_takeOne_111 : decode cX9_takeOne 111 = .ok (.getfield 24, 3) := by decide +kernel
theorem dX9_takeOne_114 : decode cX9_takeOne 114 = .ok (.iload 4, 2) := by decide +kernel
theorem dX9_takeOne_116 : decode cX9_takeOne 116 = .ok (.iload 6, 2) := by decide +kernel
theorem dX9_takeOne_118 : decode cX9_takeOne 118 = .ok (.iastore, 1) := by decide +kernel
theorem dX9_takeOne_119 : decode cX9_takeOne 119 = .ok (.goto 152, 3) := by decide +kernel
theorem dX9_takeOne_122 : decode cX9_takeOne 122 = .ok (.iload_n 3, 1) := by decide +kernel
theorem dX9_takeOne_123 : decode cX9_takeOne 123 = .ok (.iconst 5, 1) := by decide +kernel
theorem dX9_takeOne_124 : decode cX9_takeOne 124 = .ok (.if_icmp .ne 64, 3) := by decide +kernel
theorem dX9_takeOne_127 : decode cX9_takeOne 127 = .ok (.iload 4, 2) := by decide +kernel
theorem dX9_takeOne_129 : decode cX9_takeOne 129 = .ok (.aload_n 0, 1) := by decide +kernel
theorem dX9_takeOne_130 : decode cX9_takeOne 130 = .ok (.getfield 33, 3) := by decide +kernel
theorem dX9_takeOne_133 : decode cX9_takeOne 133 = .ok (.arraylength, 1) := by decide +kernel
theorem dX9_takeOne_134 : decode cX9_takeOne 134 = .ok (.if_icmp .ge 54, 3) := by decide +kernel
theorem dX9_takeOne_137 : decode cX9_takeOne 137 = .ok (.aload_n 0, 1) := by decide +kernel
theorem dX9_takeOne_138 : decode cX9_takeOne 138 = .ok (.getfield 27, 3) := by decide +kernel
theorem dX9_takeOne_141 : decode cX9_takeOne 141 = .ok (.iload 4, 2) := by decide +kernel
theorem dX9_takeOne_143 : decode cX9_takeOne 143 = .ok (.iload 5, 2) := by decide +kernel
theorem dX9_takeOne_145 : decode cX9_takeOne 145 = .ok (.iastore, 1) := by decide +kernel
theorem dX9_takeOne_146 : decode cX9_takeOne 146 = .ok (.aload_n 0, 1) := by decide +kernel
theorem dX9_takeOne_147 : decode cX9_takeOne 147 = .ok (.getfield 30, 3) := by decide +kernel
theorem dX9_takeOne_150 : decode cX9_takeOne 150 = .ok (.iload 4, 2) := by decide +kernel
theorem dX9_takeOne_152 : decode cX9_takeOne 152 = .ok (.iload 6, 2) := by decide +kernel
theorem dX9_takeOne_154 : decode cX9_takeOne 154 = .ok (.iastore, 1) := by decide +kernel
theorem dX9_takeOne_155 : decode cX9_takeOne 155 = .ok (.aload_n 0, 1) := by decide +kernel
theorem dX9_takeOne_156 : decode cX9_takeOne 156 = .ok (.getfield 33, 3) := by decide +kernel
theorem dX9_takeOne_159 : decode cX9_takeOne 159 = .ok (.iload 4, 2) := by decide +kernel
theorem dX9_takeOne_161 : decode cX9_takeOne 161 = .ok (.aload_n 1, 1) := by decide +kernel
theorem dX9_takeOne_162 : decode cX9_takeOne 162 = .ok (.iload_n 2, 1) := by decide +kernel
theorem dX9_takeOne_163 : decode cX9_takeOne 163 = .ok (.iconst 3, 1) := by decide +kernel
theorem dX9_takeOne_164 : decode cX9_takeOne 164 = .ok (.iadd, 1) := by decide +kernel
theorem dX9_takeOne_165 : decode cX9_takeOne 165 = .ok (.invokevirtual 61, 3) := by decide +kernel
theorem dX9_takeOne_168 : decode cX9_takeOne 168 = .ok (.bipush 8, 2) := by decide +kernel
theorem dX9_takeOne_170 : decode cX9_takeOne 170 = .ok (.if_icmp .ne 13, 3) := by decide +kernel
theorem dX9_takeOne_173 : decode cX9_takeOne 173 = .ok (.aload_n 1, 1) := by decide +kernel
theorem dX9_takeOne_174 : decode cX9_takeOne 174 = .ok (.iload_n 2, 1) := by decide +kernel
theorem dX9_takeOne_175 : decode cX9_takeOne 175 = .ok (.iconst 4, 1) := by decide +kernel
theorem dX9_takeOne_176 : decode cX9_takeOne 176 = .ok (.iadd, 1) := by decide +kernel
theorem dX9_takeOne_177 : decode cX9_takeOne 177 = .ok (.invokevirtual 79, 3) := by decide +kernel
theorem dX9_takeOne_180 : decode cX9_takeOne 180 = .ok (.goto 4, 3) := by decide +kernel
theorem dX9_takeOne_183 : decode cX9_takeOne 183 = .ok (.iconst (-1), 1) := by decide +kernel
theorem dX9_takeOne_184 : decode cX9_takeOne 184 = .ok (.iastore, 1) := by decide +kernel
theorem dX9_takeOne_185 : decode cX9_takeOne 185 = .ok (.goto 86, 3) := by decide +kernel
theorem dX9_takeOne_188 : decode cX9_takeOne 188 = .ok (.iload_n 3, 1) := by decide +kernel
theorem dX9_takeOne_189 : decode cX9_takeOne 189 = .ok (.bipush 6, 2) := by decide +kernel
theorem dX9_takeOne_191 : decode cX9_takeOne 191 = .ok (.if_icmp .ne 25, 3) := by decide +kernel
theorem dX9_takeOne_194 : decode cX9_takeOne 194 = .ok (.iload 4, 2) := by decide +kernel
theorem dX9_takeOne_196 : decode cX9_takeOne 196 = .ok (.aload_n 0, 1) := by decide +kernel
theorem dX9_takeOne_197 : decode cX9_takeOne 197 = .ok (.getfield 36, 3) := by decide +kernel
theorem dX9_takeOne_200 : decode cX9_takeOne 200 = .ok (.arraylength, 1) := by decide +kernel
theorem dX9_takeOne_201 : decode cX9_takeOne 201 = .ok (.if_icmp .ge 15, 3) := by decide +kernel
theorem dX9_takeOne_204 : decode cX9_takeOne 204 = .ok (.aload_n 0, 1) := by decide +kernel
theorem dX9_takeOne_205 : decode cX9_takeOne 205 = .ok (.getfield 36, 3) := by decide +kernel
theorem dX9_takeOne_208 : decode cX9_takeOne 208 = .ok (.iload 4, 2) := by decide +kernel
theorem dX9_takeOne_210 : decode cX9_takeOne 210 = .ok (.iload 6, 2) := by decide +kernel
theorem dX9_takeOne_212 : decode cX9_takeOne 212 = .ok (.iastore, 1) := by decide +kernel
theorem dX9_takeOne_213 : decode cX9_takeOne 213 = .ok (.goto 58, 3) := by decide +kernel
theorem dX9_takeOne_216 : decode cX9_takeOne 216 = .ok (.iload_n 3, 1) := by decide +kernel
theorem dX9_takeOne_217 : decode cX9_takeOne 217 = .ok (.bipush 7, 2) := by decide +kernel
theorem dX9_takeOne_219 : decode cX9_takeOne 219 = .ok (.if_icmp .ne 52, 3) := by decide +kernel
theorem dX9_takeOne_222 : decode cX9_takeOne 222 = .ok (.iload 4, 2) := by decide +kernel
theorem dX9_takeOne_224 : decode cX9_takeOne 224 = .ok (.aload_n 0, 1) := by decide +kernel
theorem dX9_takeOne_225 : decode cX9_takeOne 225 = .ok (.getfield 39, 3) := by decide +kernel
theorem dX9_takeOne_228 : decode cX9_takeOne 228 = .ok (.arraylength, 1) := by decide +kernel
theorem dX9_takeOne_229 : decode cX9_takeOne 229 = .ok (.if_icmp .ge 42, 3) := by decide +kernel
theorem dX9_takeOne_232 : decode cX9_takeOne 232 = .ok (.aload_n 0, 1) := by decide +kernel
theorem dX9_takeOne_233 : decode cX9_takeOne 233 = .ok (.getfield 39, 3) := by decide +kernel
theorem dX9_takeOne_236 : decode cX9_takeOne 236 = .ok (.iload 4, 2) := by decide +kernel
theorem dX9_takeOne_238 : decode cX9_takeOne 238 = .ok (.iload 6, 2) := by decide +kernel
theorem dX9_takeOne_240 : decode cX9_takeOne 240 = .ok (.iastore, 1) := by decide +kernel
theorem dX9_takeOne_241 : decode cX9_takeOne 241 = .ok (.aload_n 0, 1) := by decide +kernel
theorem dX9_takeOne_242 : decode cX9_takeOne 242 = .ok (.getfield 42, 3) := by decide +kernel
theorem dX9_takeOne_245 : decode cX9_takeOne 245 = .ok (.iload 4, 2) := by decide +kernel
theorem dX9_takeOne_247 : decode cX9_takeOne 247 = .ok (.aload_n 1, 1) := by decide +kernel
theorem dX9_takeOne_248 : decode cX9_takeOne 248 = .ok (.iload_n 2, 1) := by decide +kernel
theorem dX9_takeOne_249 : decode cX9_takeOne 249 = .ok (.iconst 3, 1) := by decide +kernel
theorem dX9_takeOne_250 : decode cX9_takeOne 250 = .ok (.iadd, 1) := by decide +kernel
theorem dX9_takeOne_251 : decode cX9_takeOne 251 = .ok (.invokevirtual 61, 3) := by decide +kernel
theorem dX9_takeOne_254 : decode cX9_takeOne 254 = .ok (.bipush 9, 2) := by decide +kernel
theorem dX9_takeOne_256 : decode cX9_takeOne 256 = .ok (.if_icmp .ne 13, 3) := by decide +kernel
theorem dX9_takeOne_259 : decode cX9_takeOne 259 = .ok (.aload_n 1, 1) := by decide +kernel
theorem dX9_takeOne_260 : decode cX9_takeOne 260 = .ok (.iload_n 2, 1) := by decide +kernel
theorem dX9_takeOne_261 : decode cX9_takeOne 261 = .ok (.iconst 4, 1) := by decide +kernel
theorem dX9_takeOne_262 : decode cX9_takeOne 262 = .ok (.iadd, 1) := by decide +kernel
theorem dX9_takeOne_263 : decode cX9_takeOne 263 = .ok (.invokevirtual 79, 3) := by decide +kernel
theorem dX9_takeOne_266 : decode cX9_takeOne 266 = .ok (.goto 4, 3) := by decide +kernel
theorem dX9_takeOne_269 : decode cX9_takeOne 269 = .ok (.iconst 0, 1) := by decide +kernel
theorem dX9_takeOne_270 : decode cX9_takeOne 270 = .ok (.iastore, 1) := by decide +kernel
theorem dX9_takeOne_271 : decode cX9_takeOne 271 = .ok (.return_, 1) := by decide +kernel
theorem dX9_setApart_0 : decode cX9_setApart 0 = .ok (.iload_n 1, 1) := by decide +kernel
theorem dX9_setApart_1 : decode cX9_setApart 1 = .ok (.ifCond .lt 49, 3) := by decide +kernel
theorem dX9_setApart_4 : decode cX9_setApart 4 = .ok (.iload_n 1, 1) := by decide +kernel
theorem dX9_setApart_5 : decode cX9_setApart 5 = .ok (.aload_n 0, 1) := by decide +kernel
theorem dX9_setApart_6 : decode cX9_setApart 6 = .ok (.getfield 21, 3) := by decide +kernel
theorem dX9_setApart_9 : decode cX9_setApart 9 = .ok (.arraylength, 1) := by decide +kernel
theorem dX9_setApart_10 : decode cX9_setApart 10 = .ok (.if_icmp .ge 40, 3) := by decide +kernel
theorem dX9_setApart_13 : decode cX9_setApart 13 = .ok (.iload_n 2, 1) := by decide +kernel
theorem dX9_setApart_14 : decode cX9_setApart 14 = .ok (.ifCond .lt 36, 3) := by decide +kernel
theorem dX9_setApart_17 : decode cX9_setApart 17 = .ok (.iload_n 2, 1) := by decide +kernel
theorem dX9_setApart_18 : decode cX9_setApart 18 = .ok (.aload_n 0, 1) := by decide +kernel
theorem dX9_setApart_19 : decode cX9_setApart 19 = .ok (.getfield 21, 3) := by decide +kernel
theorem dX9_setApart_22 : decode cX9_setApart 22 = .ok (.arraylength, 1) := by decide +kernel
theorem dX9_setApart_23 : decode cX9_setApart 23 = .ok (.if_icmp .ge 27, 3) := by decide +kernel
theorem dX9_setApart_26 : decode cX9_setApart 26 = .ok (.aload_n 0, 1) := by decide +kernel
theorem dX9_setApart_27 : decode cX9_setApart 27 = .ok (.getfield 21, 3) := by decide +kernel
theorem dX9_setApart_30 : decode cX9_setApart 30 = .ok (.iload_n 1, 1) := by decide +kernel
theorem dX9_setApart_31 : decode cX9_setApart 31 = .ok (.dup2, 1) := by decide +kernel
theorem dX9_setApart_32 : decode cX9_setApart 32 = .ok (.iaload, 1) := by decide +kernel
theorem dX9_setApart_33 : decode cX9_setApart 33 = .ok (.iconst 1, 1) := by decide +kernel
theorem dX9_setApart_34 : decode cX9_setApart 34 = .ok (.iload_n 2, 1) := by decide +kernel
theorem dX9_setApart_35 : decode cX9_setApart 35 = .ok (.ishl, 1) := by decide +kernel
theorem dX9_setApart_36 : decode cX9_setApart 36 = .ok (.ior, 1) := by decide +kernel
theorem dX9_setApart_37 : decode cX9_setApart 37 = .ok (.iastore, 1) := by decide +kernel
theorem dX9_setApart_38 : decode cX9_setApart 38 = .ok (.aload_n 0, 1) := by decide +kernel
theorem dX9_setApart_39 : decode cX9_setApart 39 = .ok (.getfield 21, 3) := by decide +kernel
theorem dX9_setApart_42 : decode cX9_setApart 42 = .ok (.iload_n 2, 1) := by decide +kernel
theorem dX9_setApart_43 : decode cX9_setApart 43 = .ok (.dup2, 1) := by decide +kernel
theorem dX9_setApart_44 : decode cX9_setApart 44 = .ok (.iaload, 1) := by decide +kernel
theorem dX9_setApart_45 : decode cX9_setApart 45 = .ok (.iconst 1, 1) := by decide +kernel
theorem dX9_setApart_46 : decode cX9_setApart 46 = .ok (.iload_n 1, 1) := by decide +kernel
theorem dX9_setApart_47 : decode cX9_setApart 47 = .ok (.ishl, 1) := by decide +kernel
theorem dX9_setApart_48 : decode cX9_setApart 48 = .ok (.ior, 1) := by decide +kernel
theorem dX9_setApart_49 : decode cX9_setApart 49 = .ok (.iastore, 1) := by decide +kernel
theorem dX9_setApart_50 : decode cX9_setApart 50 = .ok (.return_, 1) := by decide +kernel
theorem dX9_inOrder_0 : decode cX9_inOrder 0 = .ok (.iload_n 1, 1) := by decide +kernel
theorem dX9_inOrder_1 : decode cX9_inOrder 1 = .ok (.ifCond .lt 21, 3) := by decide +kernel
theorem dX9_inOrder_4 : decode cX9_inOrder 4 = .ok (.iload_n 1, 1) := by decide +kernel
theorem dX9_inOrder_5 : decode cX9_inOrder 5 = .ok (.aload_n 0, 1) := by decide +kernel
theorem dX9_inOrder_6 : decode cX9_inOrder 6 = .ok (.getfield 45, 3) := by decide +kernel
theorem dX9_inOrder_9 : decode cX9_inOrder 9 = .ok (.arraylength, 1) := by decide +kernel
theorem dX9_inOrder_10 : decode cX9_inOrder 10 = .ok (.if_icmp .ge 12, 3) := by decide +kernel
theorem dX9_inOrder_13 : decode cX9_inOrder 13 = .ok (.aload_n 0, 1) := by decide +kernel
theorem dX9_inOrder_14 : decode cX9_inOrder 14 = .ok (.getfield 45, 3) := by decide +kernel
theorem dX9_inOrder_17 : decode cX9_inOrder 17 = .ok (.iload_n 1, 1) := by decide +kernel
theorem dX9_inOrder_18 : decode cX9_inOrder 18 = .ok (.iaload, 1) := by decide +kernel
theorem dX9_inOrder_19 : decode cX9_inOrder 19 = .ok (.goto 4, 3) := by decide +kernel
theorem dX9_inOrder_22 : decode cX9_inOrder 22 = .ok (.iconst (-1), 1) := by decide +kernel
theorem dX9_inOrder_23 : decode cX9_inOrder 23 = .ok (.ireturn, 1) := by decide +kernel
theorem dX9_putInOrder_0 : decode cX9_putInOrder 0 = .ok (.iconst 0, 1) := by decide +kernel
theorem dX9_putInOrder_1 : decode cX9_putInOrder 1 = .ok (.istore_n 1, 1) := by decide +kernel
theorem dX9_putInOrder_2 : decode cX9_putInOrder 2 = .ok (.iload_n 1, 1) := by decide +kernel
theorem dX9_putInOrder_3 : decode cX9_putInOrder 3 = .ok (.aload_n 0, 1) := by decide +kernel
theorem dX9_putInOrder_4 : decode cX9_putInOrder 4 = .ok (.getfield 9, 3) := by decide +kernel
theorem dX9_putInOrder_7 : decode cX9_putInOrder 7 = .ok (.bipush 7, 2) := by decide +kernel
theorem dX9_putInOrder_9 : decode cX9_putInOrder 9 = .ok (.iaload, 1) := by decide +kernel
theorem dX9_putInOrder_10 : decode cX9_putInOrder 10 = .ok (.if_icmp .ge 73, 3) := by decide +kernel
theorem dX9_putInOrder_13 : decode cX9_putInOrder 13 = .ok (.iload_n 1, 1) := by decide +kernel
theorem dX9_putInOrder_14 : decode cX9_putInOrder 14 = .ok (.aload_n 0, 1) := by decide +kernel
theorem dX9_putInOrder_15 : decode cX9_putInOrder 15 = .ok (.getfield 45, 3) := by decide +kernel
theorem dX9_putInOrder_18 : decode cX9_putInOrder 18 = .ok (.arraylength, 1) := by decide +kernel
theorem dX9_putInOrder_19 : decode cX9_putInOrder 19 = .ok (.if_icmp .ge 64, 3) := by decide +kernel
theorem dX9_putInOrder_22 : decode cX9_putInOrder 22 = .ok (.iload_n 1, 1) := by decide +kernel
theorem dX9_putInOrder_23 : decode cX9_putInOrder 23 = .ok (.istore_n 2, 1) := by decide +kernel
theorem dX9_putInOrder_24 : decode cX9_putInOrder 24 = .ok (.iload_n 2, 1) := by decide +kernel
theorem dX9_putInOrder_25 : decode cX9_putInOrder 25 = .ok (.ifCond .le 45, 3) := by decide +kernel
theorem dX9_putInOrder_28 : decode cX9_putInOrder 28 = .ok (.aload_n 0, 1) := by decide +kernel
theorem dX9_putInOrder_29 : decode cX9_putInOrder 29 = .ok (.getfield 39, 3) := by decide +kernel
theorem dX9_putInOrder_32 : decode cX9_putInOrder 32 = .ok (.aload_n 0, 1) := by decide +kernel
theorem dX9_putInOrder_33 : decode cX9_putInOrder 33 = .ok (.getfield 45, 3) := by decide +kernel
theorem dX9_putInOrder_36 : decode cX9_putInOrder 36 = .ok (.iload_n 2, 1) := by decide +kernel
theorem dX9_putInOrder_37 : decode cX9_putInOrder 37 = .ok (.iconst 1, 1) := by decide +kernel
theorem dX9_putInOrder_38 : decode cX9_putInOrder 38 = .ok (.isub, 1) := by decide +kernel
theorem dX9_putInOrder_39 : decode cX9_putInOrder 39 = .ok (.iaload, 1) := by decide +kernel
theorem dX9_putInOrder_40 : decode cX9_putInOrder 40 = .ok (.iaload, 1) := by decide +kernel
theorem dX9_putInOrder_41 : decode cX9_putInOrder 41 = .ok (.aload_n 0, 1) := by decide +kernel
theorem dX9_putInOrder_42 : decode cX9_putInOrder 42 = .ok (.getfield 39, 3) := by decide +kernel
theorem dX9_putInOrder_45 : decode cX9_putInOrder 45 = .ok (.iload_n 1, 1) := by decide +kernel
theorem dX9_putInOrder_46 : decode cX9_putInOrder 46 = .ok (.iaload, 1) := by decide +kernel
theorem dX9_putInOrder_47 : decode cX9_putInOrder 47 = .ok (.if_icmp .ge 23, 3) := by decide +kernel
theorem dX9_putInOrder_50 : decode cX9_putInOrder 50 = .ok (.aload_n 0, 1) := by decide +kernel
theorem dX9_putInOrder_51 : decode cX9_putInOrder 51 = .ok (.getfield 45, 3) := by decide +kernel
theorem dX9_putInOrder_54 : decode cX9_putInOrder 54 = .ok (.iload_n 2, 1) := by decide +kernel
theorem dX9_putInOrder_55 : decode cX9_putInOrder 55 = .ok (.aload_n 0, 1) := by decide +kernel
theorem dX9_putInOrder_56 : decode cX9_putInOrder 56 = .ok (.getfield 45, 3) := by decide +kernel
theorem dX9_putInOrder_59 : decode cX9_putInOrder 59 = .ok (.iload_n 2, 1) := by decide +kernel
theorem dX9_putInOrder_60 : decode cX9_putInOrder 60 = .ok (.iconst 1, 1) := by decide +kernel
theorem dX9_putInOrder_61 : decode cX9_putInOrder 61 = .ok (.isub, 1) := by decide +kernel
theorem dX9_putInOrder_62 : decode cX9_putInOrder 62 = .ok (.iaload, 1) := by decide +kernel
theorem dX9_putInOrder_63 : decode cX9_putInOrder 63 = .ok (.iastore, 1) := by decide +kernel
theorem dX9_putInOrder_64 : decode cX9_putInOrder 64 = .ok (.iinc 2 (-1), 3) := by decide +kernel
theorem dX9_putInOrder_67 : decode cX9_putInOrder 67 = .ok (.goto (-43), 3) := by decide +kernel
theorem dX9_putInOrder_70 : decode cX9_putInOrder 70 = .ok (.aload_n 0, 1) := by decide +kernel
theorem dX9_putInOrder_71 : decode cX9_putInOrder 71 = .ok (.getfield 45, 3) := by decide +kernel
theorem dX9_putInOrder_74 : decode cX9_putInOrder 74 = .ok (.iload_n 2, 1) := by decide +kernel
theorem dX9_putInOrder_75 : decode cX9_putInOrder 75 = .ok (.iload_n 1, 1) := by decide +kernel
theorem dX9_putInOrder_76 : decode cX9_putInOrder 76 = .ok (.iastore, 1) := by decide +kernel
theorem dX9_putInOrder_77 : decode cX9_putInOrder 77 = .ok (.iinc 1 1, 3) := by decide +kernel
theorem dX9_putInOrder_80 : decode cX9_putInOrder 80 = .ok (.goto (-78), 3) := by decide +kernel
theorem dX9_putInOrder_83 : decode cX9_putInOrder 83 = .ok (.return_, 1) := by decide +kernel
theorem dX10_init_0 : decode cX10_init 0 = .ok (.aload_n 0, 1) := by decide +kernel
theorem dX10_init_1 : decode cX10_init 1 = .ok (.invokespecial 3, 3) := by decide +kernel
theorem dX10_init_4 : decode cX10_init 4 = .ok (.aload_n 0, 1) := by decide +kernel
theorem dX10_init_5 : decode cX10_init 5 = .ok (.bipush 27, 2) := by decide +kernel
theorem dX10_init_7 : decode cX10_init 7 = .ok (.newarray .long, 2) := by decide +kernel
theorem dX10_init_9 : decode cX10_init 9 = .ok (.putfield 9, 3) := by decide +kernel
theorem dX10_init_12 : decode cX10_init 12 = .ok (.aload_n 0, 1) := by decide +kernel
theorem dX10_init_13 : decode cX10_init 13 = .ok (.sipush 1002, 3) := by decide +kernel
theorem dX10_init_16 : decode cX10_init 16 = .ok (.newarray .byte, 2) := by decide +kernel
theorem dX10_init_18 : decode cX10_init 18 = .ok (.putfield 15, 3) := by decide +kernel
theorem dX10_init_21 : decode cX10_init 21 = .ok (.aload_n 0, 1) := by decide +kernel
theorem dX10_init_22 : decode cX10_init 22 = .ok (.sipush 1002, 3) := by decide +kernel
theorem dX10_init_25 : decode cX10_init 25 = .ok (.newarray .int, 2) := by decide +kernel
theorem dX10_init_27 : decode cX10_init 27 = .ok (.putfield 19, 3) := by decide +kernel
theorem dX10_init_30 : decode cX10_init 30 = .ok (.aload_n 0, 1) := by decide +kernel
theorem dX10_init_31 : decode cX10_init 31 = .ok (.sipush 1002, 3) := by decide +kernel
theorem dX10_init_34 : decode cX10_init 34 = .ok (.newarray .long, 2) := by decide +kernel
theorem dX10_init_36 : decode cX10_init 36 = .ok (.putfield 23, 3) := by decide +kernel
theorem dX10_init_39 : decode cX10_init 39 = .ok (.aload_n 0, 1) := by decide +kernel
theorem dX10_init_40 : decode cX10_init 40 = .ok (.iconst 0, 1) := by decide +kernel
theorem dX10_init_41 : decode cX10_init 41 = .ok (.putfield 26, 3) := by decide +kernel
theorem dX10_init_44 : decode cX10_init 44 = .ok (.aload_n 0, 1) := by decide +kernel
theorem dX10_init_45 : decode cX10_init 45 = .ok (.iconst 0, 1) := by decide +kernel
theorem dX10_init_46 : decode cX10_init 46 = .ok (.putfield 30, 3) := by decide +kernel
theorem dX10_init_49 : decode cX10_init 49 = .ok (.aload_n 0, 1) := by decide +kernel
theorem dX10_init_50 : decode cX10_init 50 = .ok (.iconst (-1), 1) := by decide +kernel
theorem dX10_init_51 : decode cX10_init 51 = .ok (.putfield 33, 3) := by decide +kernel
theorem dX10_init_54 : decode cX10_init 54 = .ok (.iconst 0, 1) := by decide +kernel
theorem dX10_init_55 : decode cX10_init 55 = .ok (.istore_n 1, 1) := by decide +kernel
theorem dX10_init_56 : decode cX10_init 56 = .ok (.lconst 0, 1) := by decide +kernel
theorem dX10_init_57 : decode cX10_init 57 = .ok (.lstore_n 2, 1) := by decide +kernel
theorem dX10_init_58 : decode cX10_init 58 = .ok (.iconst 0, 1) := by decide +kernel
theorem dX10_init_59 : decode cX10_init 59 = .ok (.istore 4, 2) := by decide +kernel
theorem dX10_init_61 : decode cX10_init 61 = .ok (.iload 4, 2) := by decide +kernel
theorem dX10_init_63 : decode cX10_init 63 = .ok (.ldc 36, 2) := by decide +kernel
theorem dX10_init_65 : decode cX10_init 65 = .ok (.invokevirtual 38, 3) := by decide +kernel
theorem dX10_init_68 : decode cX10_init 68 = .ok (.if_icmp .ge 59, 3) := by decide +kernel
theorem dX10_init_71 : decode cX10_init 71 = .ok (.ldc 36, 2) := by decide +kernel
theorem dX10_init_73 : decode cX10_init 73 = .ok (.iload 4, 2) := by decide +kernel
theorem dX10_init_75 : decode cX10_init 75 = .ok (.invokevirtual 44, 3) := by decide +kernel
theorem dX10_init_78 : decode cX10_init 78 = .ok (.bipush 32, 2) := by decide +kernel
theorem dX10_init_80 : decode cX10_init 80 = .ok (.if_icmp .eq 20, 3) := by decide +kernel
theorem dX10_init_83 : decode cX10_init 83 = .ok (.lload_n 2, 1) := by decide +kernel
theorem dX10_init_84 : decode cX10_init 84 = .ok (.bipush 8, 2) := by decide +kernel
theorem dX10_init_86 : decode cX10_init 86 = .ok (.lshl, 1) := by decide +kernel
theorem dX10_init_87 : decode cX10_init 87 = .ok (.ldc 36, 2) := by decide +kernel
theorem dX10_init_89 : decode cX10_init 89 = .ok (.iload 4, 2) := by decide +kernel
theorem dX10_init_91 : decode cX10_init 91 = .ok (.invokevirtual 44, 3) := by decide +kernel
theorem dX10_init_94 : decode cX10_init 94 = .ok (.i2l, 1) := by decide +kernel
theorem dX10_init_95 : decode cX10_init 95 = .ok (.lor, 1) := by decide +kernel
theorem dX10_init_96 : decode cX10_init 96 = .ok (.lstore_n 2, 1) := by decide +kernel
theorem dX10_init_97 : decode cX10_init 97 = .ok (.goto 24, 3) := by decide +kernel
theorem dX10_init_100 : decode cX10_init 100 = .ok (.iload_n 1, 1) := by decide +kernel
theorem dX10_init_101 : decode cX10_init 101 = .ok (.aload_n 0, 1) := by decide +kernel
theorem dX10_init_102 : decode cX10_init 102 = .ok (.getfield 9, 3) := by decide +kernel
theorem dX10_init_105 : decode cX10_init 105 = .ok (.arraylength, 1) := by decide +kernel
theorem dX10_init_106 : decode cX10_init 106 = .ok (.if_icmp .ge 15, 3) := by decide +kernel
theorem dX10_init_109 : decode cX10_init 109 = .ok (.aload_n 0, 1) := by decide +kernel
theorem dX10_init_110 : decode cX10_init 110 = .ok (.getfield 9, 3) := by decide +kernel
theorem dX10_init_113 : decode cX10_init 113 = .ok (.iload_n 1, 1) := by decide +kernel
theorem dX10_init_114 : decode cX10_init 114 = .ok (.lload_n 2, 1) := by decide +kernel
theorem dX10_init_115 : decode cX10_init 115 = .ok (.lastore, 1) := by decide +kernel
theorem dX10_init_116 : decode cX10_init 116 = .ok (.iinc 1 1, 3) := by decide +kernel
theorem dX10_init_119 : decode cX10_init 119 = .ok (.lconst 0, 1) := by decide +kernel
theorem dX10_init_120 : decode cX10_init 120 = .ok (.lstore_n 2, 1) := by decide +kernel
theorem dX10_init_121 : decode cX10_init 121 = .ok (.iinc 4 1, 3) := by decide +kernel
theorem dX10_init_124 : decode cX10_init 124 = .ok (.goto (-63), 3) := by decide +kernel
theorem dX10_init_127 : decode cX10_init 127 = .ok (.return_, 1) := by decide +kernel
theorem dX10_cut_0 : decode cX10_cut 0 = .ok (.iload_n 2, 1) := by decide +kernel
theorem dX10_cut_1 : decode cX10_cut 1 = .ok (.aload_n 1, 1) := by decide +kernel
theorem dX10_cut_2 : decode cX10_cut 2 = .ok (.arraylength, 1) := by decide +kernel
theorem dX10_cut_3 : decode cX10_cut 3 = .ok (.invokestatic 48, 3) := by decide +kernel
theorem dX10_cut_6 : decode cX10_cut 6 = .ok (.istore_n 3, 1) := by decide +kernel
theorem dX10_cut_7 : decode cX10_cut 7 = .ok (.aload_n 0, 1) := by decide +kernel
theorem dX10_cut_8 : decode cX10_cut 8 = .ok (.iconst 0, 1) := by decide +kernel
theorem dX10_cut_9 : decode cX10_cut 9 = .ok (.putfield 26, 3) := by decide +kernel
theorem dX10_cut_12 : decode cX10_cut 12 = .ok (.aload_n 0, 1) := by decide +kernel
theorem dX10_cut_13 : decode cX10_cut 13 = .ok (.iconst 0, 1) := by decide +kernel
theorem dX10_cut_14 : decode cX10_cut 14 = .ok (.putfield 30, 3) := by decide +kernel
theorem dX10_cut_17 : decode cX10_cut 17 = .ok (.aload_n 0, 1) := by decide +kernel
theorem dX10_cut_18 : decode cX10_cut 18 = .ok (.iconst (-1), 1) := by decide +kernel
theorem dX10_cut_19 : decode cX10_cut 19 = .ok (.putfield 33, 3) := by decide +kernel
theorem dX10_cut_22 : decode cX10_cut 22 = .ok (.iconst 0, 1) := by decide +kernel
theorem dX10_cut_23 : decode cX10_cut 23 = .ok (.istore 4, 2) := by decide +kernel
theorem dX10_cut_25 : decode cX10_cut 25 = .ok (.bipush 29, 2) := by decide +kernel
theorem dX10_cut_27 : decode cX10_cut 27 = .ok (.istore 5, 2) := by decide +kernel
theorem dX10_cut_29 : decode cX10_cut 29 = .ok (.aload_n 0, 1) := by decide +kernel
theorem dX10_cut_30 : decode cX10_cut 30 = .ok (.getfield 26, 3) := by decide +kernel
theorem dX10_cut_33 : decode cX10_cut 33 = .ok (.sipush 1002, 3) := by decide +kernel
theorem dX10_cut_36 : decode cX10_cut 36 = .ok (.if_icmp .ge 123, 3) := by decide +kernel
theorem dX10_cut_39 : decode cX10_cut 39 = .ok (.iload 5, 2) := by decide +kernel
theorem dX10_cut_41 : decode cX10_cut 41 = .ok (.bipush 41, 2) := by decide +kernel
theorem dX10_cut_43 : decode cX10_cut 43 = .ok (.if_icmp .eq 116, 3) := by decide +kernel
theorem dX10_cut_46 : decode cX10_cut 46 = .ok (.iload 5, 2) := by decide +kernel
theorem dX10_cut_48 : decode cX10_cut 48 = .ok (.bipush 42, 2) := by decide +kernel
theorem dX10_cut_50 : decode cX10_cut 50 = .ok (.if_icmp .eq 109, 3) := by decide +kernel
theorem dX10_cut_53 : decode cX10_cut 53 = .ok (.aload_n 1, 1) := by decide +kernel
theorem dX10_cut_54 : decode cX10_cut 54 = .ok (.iload 4, 2) := by decide +kernel
