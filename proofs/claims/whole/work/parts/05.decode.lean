theorem d_T_within_0 : decode b_T_within 0 = .ok (.iload_n 1, 1) := by decide +kernel
theorem d_T_within_1 : decode b_T_within 1 = .ok (.iload_n 0, 1) := by decide +kernel
theorem d_T_within_2 : decode b_T_within 2 = .ok (.if_icmp .gt 12, 3) := by decide +kernel
theorem d_T_within_5 : decode b_T_within 5 = .ok (.iload_n 0, 1) := by decide +kernel
theorem d_T_within_6 : decode b_T_within 6 = .ok (.iload_n 2, 1) := by decide +kernel
theorem d_T_within_7 : decode b_T_within 7 = .ok (.if_icmp .gt 7, 3) := by decide +kernel
theorem d_T_within_10 : decode b_T_within 10 = .ok (.iconst 1, 1) := by decide +kernel
theorem d_T_within_11 : decode b_T_within 11 = .ok (.goto 4, 3) := by decide +kernel
theorem d_T_within_14 : decode b_T_within 14 = .ok (.iconst 0, 1) := by decide +kernel
theorem d_T_within_15 : decode b_T_within 15 = .ok (.ireturn, 1) := by decide +kernel
theorem d_F_mayPitch_0 : decode b_F_mayPitch 0 = .ok (.iload_n 0, 1) := by decide +kernel
theorem d_F_mayPitch_1 : decode b_F_mayPitch 1 = .ok (.iconst 2, 1) := by decide +kernel
theorem d_F_mayPitch_2 : decode b_F_mayPitch 2 = .ok (.bipush 8, 2) := by decide +kernel
theorem d_F_mayPitch_4 : decode b_F_mayPitch 4 = .ok (.invokestatic 31, 3) := by decide +kernel
theorem d_F_mayPitch_7 : decode b_F_mayPitch 7 = .ok (.ireturn, 1) := by decide +kernel
theorem d_T_bad_0 : decode b_T_bad 0 = .ok (.aload_n 0, 1) := by decide +kernel
theorem d_T_bad_1 : decode b_T_bad 1 = .ok (.dup, 1) := by decide +kernel
theorem d_T_bad_2 : decode b_T_bad 2 = .ok (.getfield 65, 3) := by decide +kernel
theorem d_T_bad_5 : decode b_T_bad 5 = .ok (.iconst 1, 1) := by decide +kernel
theorem d_T_bad_6 : decode b_T_bad 6 = .ok (.iadd, 1) := by decide +kernel
theorem d_T_bad_7 : decode b_T_bad 7 = .ok (.putfield 65, 3) := by decide +kernel
theorem d_T_bad_10 : decode b_T_bad 10 = .ok (.iload_n 1, 1) := by decide +kernel
theorem d_T_bad_11 : decode b_T_bad 11 = .ok (.ireturn, 1) := by decide +kernel
theorem d_F_drive_0 : decode b_F_drive 0 = .ok (.aload_n 0, 1) := by decide +kernel
theorem d_F_drive_1 : decode b_F_drive 1 = .ok (.getfield 9, 3) := by decide +kernel
theorem d_F_drive_4 : decode b_F_drive 4 = .ok (.iload_n 1, 1) := by decide +kernel
theorem d_F_drive_5 : decode b_F_drive 5 = .ok (.iload_n 2, 1) := by decide +kernel
theorem d_F_drive_6 : decode b_F_drive 6 = .ok (.iastore, 1) := by decide +kernel
theorem d_F_drive_7 : decode b_F_drive 7 = .ok (.aload_n 0, 1) := by decide +kernel
theorem d_F_drive_8 : decode b_F_drive 8 = .ok (.getfield 15, 3) := by decide +kernel
theorem d_F_drive_11 : decode b_F_drive 11 = .ok (.iload_n 1, 1) := by decide +kernel
theorem d_F_drive_12 : decode b_F_drive 12 = .ok (.iload_n 3, 1) := by decide +kernel
theorem d_F_drive_13 : decode b_F_drive 13 = .ok (.iastore, 1) := by decide +kernel
theorem d_F_drive_14 : decode b_F_drive 14 = .ok (.aload_n 0, 1) := by decide +kernel
theorem d_F_drive_15 : decode b_F_drive 15 = .ok (.getfield 18, 3) := by decide +kernel
theorem d_F_drive_18 : decode b_F_drive 18 = .ok (.iload_n 1, 1) := by decide +kernel
theorem d_F_drive_19 : decode b_F_drive 19 = .ok (.iload 4, 2) := by decide +kernel
theorem d_F_drive_21 : decode b_F_drive 21 = .ok (.iastore, 1) := by decide +kernel
theorem d_F_drive_22 : decode b_F_drive 22 = .ok (.return_, 1) := by decide +kernel
theorem d_F_pitch_0 : decode b_F_pitch 0 = .ok (.aload_n 0, 1) := by decide +kernel
theorem d_F_pitch_1 : decode b_F_pitch 1 = .ok (.iload_n 1, 1) := by decide +kernel
theorem d_F_pitch_2 : decode b_F_pitch 2 = .ok (.putfield 35, 3) := by decide +kernel
theorem d_F_pitch_5 : decode b_F_pitch 5 = .ok (.aload_n 0, 1) := by decide +kernel
theorem d_F_pitch_6 : decode b_F_pitch 6 = .ok (.iconst 0, 1) := by decide +kernel
theorem d_F_pitch_7 : decode b_F_pitch 7 = .ok (.putfield 39, 3) := by decide +kernel
theorem d_F_pitch_10 : decode b_F_pitch 10 = .ok (.aload_n 0, 1) := by decide +kernel
theorem d_F_pitch_11 : decode b_F_pitch 11 = .ok (.iconst 0, 1) := by decide +kernel
theorem d_F_pitch_12 : decode b_F_pitch 12 = .ok (.putfield 42, 3) := by decide +kernel
theorem d_F_pitch_15 : decode b_F_pitch 15 = .ok (.aload_n 0, 1) := by decide +kernel
theorem d_F_pitch_16 : decode b_F_pitch 16 = .ok (.iconst 1, 1) := by decide +kernel
theorem d_F_pitch_17 : decode b_F_pitch 17 = .ok (.iload_n 1, 1) := by decide +kernel
theorem d_F_pitch_18 : decode b_F_pitch 18 = .ok (.ishl, 1) := by decide +kernel
theorem d_F_pitch_19 : decode b_F_pitch 19 = .ok (.iconst 1, 1) := by decide +kernel
theorem d_F_pitch_20 : decode b_F_pitch 20 = .ok (.isub, 1) := by decide +kernel
theorem d_F_pitch_21 : decode b_F_pitch 21 = .ok (.putfield 45, 3) := by decide +kernel
theorem d_F_pitch_24 : decode b_F_pitch 24 = .ok (.aload_n 0, 1) := by decide +kernel
theorem d_F_pitch_25 : decode b_F_pitch 25 = .ok (.iconst 0, 1) := by decide +kernel
theorem d_F_pitch_26 : decode b_F_pitch 26 = .ok (.putfield 48, 3) := by decide +kernel
theorem d_F_pitch_29 : decode b_F_pitch 29 = .ok (.iconst 0, 1) := by decide +kernel
theorem d_F_pitch_30 : decode b_F_pitch 30 = .ok (.istore_n 2, 1) := by decide +kernel
theorem d_F_pitch_31 : decode b_F_pitch 31 = .ok (.iload_n 2, 1) := by decide +kernel
theorem d_F_pitch_32 : decode b_F_pitch 32 = .ok (.bipush 8, 2) := by decide +kernel
theorem d_F_pitch_34 : decode b_F_pitch 34 = .ok (.if_icmp .ge 17, 3) := by decide +kernel
theorem d_F_pitch_37 : decode b_F_pitch 37 = .ok (.aload_n 0, 1) := by decide +kernel
theorem d_F_pitch_38 : decode b_F_pitch 38 = .ok (.iload_n 2, 1) := by decide +kernel
theorem d_F_pitch_39 : decode b_F_pitch 39 = .ok (.iconst 0, 1) := by decide +kernel
theorem d_F_pitch_40 : decode b_F_pitch 40 = .ok (.iconst 5, 1) := by decide +kernel
theorem d_F_pitch_41 : decode b_F_pitch 41 = .ok (.iconst 4, 1) := by decide +kernel
theorem d_F_pitch_42 : decode b_F_pitch 42 = .ok (.invokevirtual 51, 3) := by decide +kernel
theorem d_F_pitch_45 : decode b_F_pitch 45 = .ok (.iinc 2 1, 3) := by decide +kernel
theorem d_F_pitch_48 : decode b_F_pitch 48 = .ok (.goto (-17), 3) := by decide +kernel
theorem d_F_pitch_51 : decode b_F_pitch 51 = .ok (.iconst 0, 1) := by decide +kernel
theorem d_F_pitch_52 : decode b_F_pitch 52 = .ok (.istore_n 2, 1) := by decide +kernel
theorem d_F_pitch_53 : decode b_F_pitch 53 = .ok (.iload_n 2, 1) := by decide +kernel
theorem d_F_pitch_54 : decode b_F_pitch 54 = .ok (.bipush 8, 2) := by decide +kernel
theorem d_F_pitch_56 : decode b_F_pitch 56 = .ok (.if_icmp .ge 16, 3) := by decide +kernel
theorem d_F_pitch_59 : decode b_F_pitch 59 = .ok (.aload_n 0, 1) := by decide +kernel
theorem d_F_pitch_60 : decode b_F_pitch 60 = .ok (.getfield 21, 3) := by decide +kernel
theorem d_F_pitch_63 : decode b_F_pitch 63 = .ok (.iload_n 2, 1) := by decide +kernel
theorem d_F_pitch_64 : decode b_F_pitch 64 = .ok (.iconst 1, 1) := by decide +kernel
theorem d_F_pitch_65 : decode b_F_pitch 65 = .ok (.iastore, 1) := by decide +kernel
theorem d_F_pitch_66 : decode b_F_pitch 66 = .ok (.iinc 2 1, 3) := by decide +kernel
theorem d_F_pitch_69 : decode b_F_pitch 69 = .ok (.goto (-16), 3) := by decide +kernel
theorem d_F_pitch_72 : decode b_F_pitch 72 = .ok (.return_, 1) := by decide +kernel
theorem d_T_tent_0 : decode b_T_tent 0 = .ok (.iload_n 1, 1) := by decide +kernel
theorem d_T_tent_1 : decode b_T_tent 1 = .ok (.invokestatic 74, 3) := by decide +kernel
theorem d_T_tent_4 : decode b_T_tent 4 = .ok (.ifCond .ne 10, 3) := by decide +kernel
theorem d_T_tent_7 : decode b_T_tent 7 = .ok (.aload_n 0, 1) := by decide +kernel
theorem d_T_tent_8 : decode b_T_tent 8 = .ok (.bipush (-2), 2) := by decide +kernel
theorem d_T_tent_10 : decode b_T_tent 10 = .ok (.invokevirtual 78, 3) := by decide +kernel
theorem d_T_tent_13 : decode b_T_tent 13 = .ok (.ireturn, 1) := by decide +kernel
theorem d_T_tent_14 : decode b_T_tent 14 = .ok (.aload_n 0, 1) := by decide +kernel
theorem d_T_tent_15 : decode b_T_tent 15 = .ok (.getfield 10, 3) := by decide +kernel
theorem d_T_tent_18 : decode b_T_tent 18 = .ok (.getfield 82, 3) := by decide +kernel
theorem d_T_tent_21 : decode b_T_tent 21 = .ok (.istore_n 2, 1) := by decide +kernel
theorem d_T_tent_22 : decode b_T_tent 22 = .ok (.aload_n 0, 1) := by decide +kernel
theorem d_T_tent_23 : decode b_T_tent 23 = .ok (.getfield 10, 3) := by decide +kernel
theorem d_T_tent_26 : decode b_T_tent 26 = .ok (.iload_n 1, 1) := by decide +kernel
theorem d_T_tent_27 : decode b_T_tent 27 = .ok (.invokevirtual 85, 3) := by decide +kernel
theorem d_T_tent_30 : decode b_T_tent 30 = .ok (.iload_n 2, 1) := by decide +kernel
theorem d_T_tent_31 : decode b_T_tent 31 = .ok (.ireturn, 1) := by decide +kernel
theorem d_F_hasPeg_0 : decode b_F_hasPeg 0 = .ok (.iload_n 1, 1) := by decide +kernel
theorem d_F_hasPeg_1 : decode b_F_hasPeg 1 = .ok (.iconst 0, 1) := by decide +kernel
theorem d_F_hasPeg_2 : decode b_F_hasPeg 2 = .ok (.aload_n 0, 1) := by decide +kernel
theorem d_F_hasPeg_3 : decode b_F_hasPeg 3 = .ok (.getfield 35, 3) := by decide +kernel
theorem d_F_hasPeg_6 : decode b_F_hasPeg 6 = .ok (.iconst 1, 1) := by decide +kernel
theorem d_F_hasPeg_7 : decode b_F_hasPeg 7 = .ok (.isub, 1) := by decide +kernel
theorem d_F_hasPeg_8 : decode b_F_hasPeg 8 = .ok (.invokestatic 31, 3) := by decide +kernel
theorem d_F_hasPeg_11 : decode b_F_hasPeg 11 = .ok (.ireturn, 1) := by decide +kernel
theorem d_F_mayDrive_0 : decode b_F_mayDrive 0 = .ok (.aload_n 0, 1) := by decide +kernel
theorem d_F_mayDrive_1 : decode b_F_mayDrive 1 = .ok (.iload_n 1, 1) := by decide +kernel
theorem d_F_mayDrive_2 : decode b_F_mayDrive 2 = .ok (.invokevirtual 55, 3) := by decide +kernel
theorem d_F_mayDrive_5 : decode b_F_mayDrive 5 = .ok (.ifCond .eq 37, 3) := by decide +kernel
theorem d_F_mayDrive_8 : decode b_F_mayDrive 8 = .ok (.iload_n 2, 1) := by decide +kernel
theorem d_F_mayDrive_9 : decode b_F_mayDrive 9 = .ok (.iconst 0, 1) := by decide +kernel
theorem d_F_mayDrive_10 : decode b_F_mayDrive 10 = .ok (.iconst 5, 1) := by decide +kernel
theorem d_F_mayDrive_11 : decode b_F_mayDrive 11 = .ok (.invokestatic 31, 3) := by decide +kernel
theorem d_F_mayDrive_14 : decode b_F_mayDrive 14 = .ok (.ifCond .eq 28, 3) := by decide +kernel
theorem d_F_mayDrive_17 : decode b_F_mayDrive 17 = .ok (.iload_n 3, 1) := by decide +kernel
theorem d_F_mayDrive_18 : decode b_F_mayDrive 18 = .ok (.iconst 0, 1) := by decide +kernel
theorem d_F_mayDrive_19 : decode b_F_mayDrive 19 = .ok (.bipush 9, 2) := by decide +kernel
theorem d_F_mayDrive_21 : decode b_F_mayDrive 21 = .ok (.invokestatic 31, 3) := by decide +kernel
theorem d_F_mayDrive_24 : decode b_F_mayDrive 24 = .ok (.ifCond .eq 18, 3) := by decide +kernel
theorem d_F_mayDrive_27 : decode b_F_mayDrive 27 = .ok (.iload 4, 2) := by decide +kernel
theorem d_F_mayDrive_29 : decode b_F_mayDrive 29 = .ok (.iconst 0, 1) := by decide +kernel
theorem d_F_mayDrive_30 : decode b_F_mayDrive 30 = .ok (.bipush 9, 2) := by decide +kernel
theorem d_F_mayDrive_32 : decode b_F_mayDrive 32 = .ok (.invokestatic 31, 3) := by decide +kernel
theorem d_F_mayDrive_35 : decode b_F_mayDrive 35 = .ok (.ifCond .eq 7, 3) := by decide +kernel
theorem d_F_mayDrive_38 : decode b_F_mayDrive 38 = .ok (.iconst 1, 1) := by decide +kernel
theorem d_F_mayDrive_39 : decode b_F_mayDrive 39 = .ok (.goto 4, 3) := by decide +kernel
theorem d_F_mayDrive_42 : decode b_F_mayDrive 42 = .ok (.iconst 0, 1) := by decide +kernel
theorem d_F_mayDrive_43 : decode b_F_mayDrive 43 = .ok (.ireturn, 1) := by decide +kernel
theorem d_T_peg_0 : decode b_T_peg 0 = .ok (.aload_n 0, 1) := by decide +kernel
theorem d_T_peg_1 : decode b_T_peg 1 = .ok (.getfield 10, 3) := by decide +kernel
theorem d_T_peg_4 : decode b_T_peg 4 = .ok (.iload_n 1, 1) := by decide +kernel
theorem d_T_peg_5 : decode b_T_peg 5 = .ok (.iload_n 2, 1) := by decide +kernel
theorem d_T_peg_6 : decode b_T_peg 6 = .ok (.iload_n 3, 1) := by decide +kernel
theorem d_T_peg_7 : decode b_T_peg 7 = .ok (.iload 4, 2) := by decide +kernel
theorem d_T_peg_9 : decode b_T_peg 9 = .ok (.invokevirtual 89, 3) := by decide +kernel
theorem d_T_peg_12 : decode b_T_peg 12 = .ok (.ifCond .ne 10, 3) := by decide +kernel
theorem d_T_peg_15 : decode b_T_peg 15 = .ok (.aload_n 0, 1) := by decide +kernel
theorem d_T_peg_16 : decode b_T_peg 16 = .ok (.bipush (-2), 2) := by decide +kernel
theorem d_T_peg_18 : decode b_T_peg 18 = .ok (.invokevirtual 78, 3) := by decide +kernel
theorem d_T_peg_21 : decode b_T_peg 21 = .ok (.ireturn, 1) := by decide +kernel
theorem d_T_peg_22 : decode b_T_peg 22 = .ok (.aload_n 0, 1) := by decide +kernel
theorem d_T_peg_23 : decode b_T_peg 23 = .ok (.getfield 10, 3) := by decide +kernel
theorem d_T_peg_26 : decode b_T_peg 26 = .ok (.getfield 93, 3) := by decide +kernel
theorem d_T_peg_29 : decode b_T_peg 29 = .ok (.iload_n 1, 1) := by decide +kernel
theorem d_T_peg_30 : decode b_T_peg 30 = .ok (.iaload, 1) := by decide +kernel
theorem d_T_peg_31 : decode b_T_peg 31 = .ok (.istore 5, 2) := by decide +kernel
theorem d_T_peg_33 : decode b_T_peg 33 = .ok (.aload_n 0, 1) := by decide +kernel
theorem d_T_peg_34 : decode b_T_peg 34 = .ok (.getfield 10, 3) := by decide +kernel
theorem d_T_peg_37 : decode b_T_peg 37 = .ok (.iload_n 1, 1) := by decide +kernel
theorem d_T_peg_38 : decode b_T_peg 38 = .ok (.iload_n 2, 1) := by decide +kernel
theorem d_T_peg_39 : decode b_T_peg 39 = .ok (.iload_n 3, 1) := by decide +kernel
theorem d_T_peg_40 : decode b_T_peg 40 = .ok (.iload 4, 2) := by decide +kernel
theorem d_T_peg_42 : decode b_T_peg 42 = .ok (.invokevirtual 97, 3) := by decide +kernel
theorem d_T_peg_45 : decode b_T_peg 45 = .ok (.iload 5, 2) := by decide +kernel
theorem d_T_peg_47 : decode b_T_peg 47 = .ok (.ireturn, 1) := by decide +kernel
theorem d_F_mayWet_0 : decode b_F_mayWet 0 = .ok (.iload_n 0, 1) := by decide +kernel
theorem d_F_mayWet_1 : decode b_F_mayWet 1 = .ok (.iconst 0, 1) := by decide +kernel
theorem d_F_mayWet_2 : decode b_F_mayWet 2 = .ok (.bipush 9, 2) := by decide +kernel
theorem d_F_mayWet_4 : decode b_F_mayWet 4 = .ok (.invokestatic 31, 3) := by decide +kernel
theorem d_F_mayWet_7 : decode b_F_mayWet 7 = .ok (.ireturn, 1) := by decide +kernel
theorem d_T_wet_0 : decode b_T_wet 0 = .ok (.iload_n 1, 1) := by decide +kernel
theorem d_T_wet_1 : decode b_T_wet 1 = .ok (.invokestatic 101, 3) := by decide +kernel
theorem d_T_wet_4 : decode b_T_wet 4 = .ok (.ifCond .ne 10, 3) := by decide +kernel
theorem d_T_wet_7 : decode b_T_wet 7 = .ok (.aload_n 0, 1) := by decide +kernel
theorem d_T_wet_8 : decode b_T_wet 8 = .ok (.bipush (-2), 2) := by decide +kernel
theorem d_T_wet_10 : decode b_T_wet 10 = .ok (.invokevirtual 78, 3) := by decide +kernel
theorem d_T_wet_13 : decode b_T_wet 13 = .ok (.ireturn, 1) := by decide +kernel
theorem d_T_wet_14 : decode b_T_wet 14 = .ok (.aload_n 0, 1) := by decide +kernel
theorem d_T_wet_15 : decode b_T_wet 15 = .ok (.getfield 10, 3) := by decide +kernel
theorem d_T_wet_18 : decode b_T_wet 18 = .ok (.getfield 104, 3) := by decide +kernel
theorem d_T_wet_21 : decode b_T_wet 21 = .ok (.istore_n 2, 1) := by decide +kernel
theorem d_T_wet_22 : decode b_T_wet 22 = .ok (.aload_n 0, 1) := by decide +kernel
theorem d_T_wet_23 : decode b_T_wet 23 = .ok (.getfield 10, 3) := by decide +kernel
theorem d_T_wet_26 : decode b_T_wet 26 = .ok (.iload_n 1, 1) := by decide +kernel
theorem d_T_wet_27 : decode b_T_wet 27 = .ok (.putfield 104, 3) := by decide +kernel
theorem d_T_wet_30 : decode b_T_wet 30 = .ok (.iload_n 2, 1) := by decide +kernel
theorem d_T_wet_31 : decode b_T_wet 31 = .ok (.ireturn, 1) := by decide +kernel
theorem d_T_isWay_0 : decode b_T_isWay 0 = .ok (.iload_n 0, 1) := by decide +kernel
theorem d_T_isWay_1 : decode b_T_isWay 1 = .ok (.iconst 0, 1) := by decide +kernel
theorem d_T_isWay_2 : decode b_T_isWay 2 = .ok (.bipush 7, 2) := by decide +kernel
theorem d_T_isWay_4 : decode b_T_isWay 4 = .ok (.invokestatic 128, 3) := by decide +kernel
theorem d_T_isWay_7 : decode b_T_isWay 7 = .ok (.ireturn, 1) := by decide +kernel
theorem d_T_has_0 : decode b_T_has 0 = .ok (.iload_n 0, 1) := by decide +kernel
theorem d_T_has_1 : decode b_T_has 1 = .ok (.iload_n 1, 1) := by decide +kernel
theorem d_T_has_2 : decode b_T_has 2 = .ok (.ishr, 1) := by decide +kernel
theorem d_T_has_3 : decode b_T_has 3 = .ok (.iconst 1, 1) := by decide +kernel
theorem d_T_has_4 : decode b_T_has 4 = .ok (.iand, 1) := by decide +kernel
theorem d_T_has_5 : decode b_T_has 5 = .ok (.iconst 1, 1) := by decide +kernel
theorem d_T_has_6 : decode b_T_has 6 = .ok (.if_icmp .ne 7, 3) := by decide +kernel
theorem d_T_has_9 : decode b_T_has 9 = .ok (.iconst 1, 1) := by decide +kernel
theorem d_T_has_10 : decode b_T_has 10 = .ok (.goto 4, 3) := by decide +kernel
theorem d_T_has_13 : decode b_T_has 13 = .ok (.iconst 0, 1) := by decide +kernel
theorem d_T_has_14 : decode b_T_has 14 = .ok (.ireturn, 1) := by decide +kernel
theorem d_F_hasWall_0 : decode b_F_hasWall 0 = .ok (.aload_n 0, 1) := by decide +kernel
theorem d_F_hasWall_1 : decode b_F_hasWall 1 = .ok (.getfield 42, 3) := by decide +kernel
theorem d_F_hasWall_4 : decode b_F_hasWall 4 = .ok (.iload_n 1, 1) := by decide +kernel
theorem d_F_hasWall_5 : decode b_F_hasWall 5 = .ok (.invokestatic 59, 3) := by decide +kernel
theorem d_F_hasWall_8 : decode b_F_hasWall 8 = .ok (.ireturn, 1) := by decide +kernel
theorem d_T_no_0 : decode b_T_no 0 = .ok (.aload_n 0, 1) := by decide +kernel
theorem d_T_no_1 : decode b_T_no 1 = .ok (.dup, 1) := by decide +kernel
theorem d_T_no_2 : decode b_T_no 2 = .ok (.getfield 68, 3) := by decide +kernel
theorem d_T_no_5 : decode b_T_no 5 = .ok (.iconst 1, 1) := by decide +kernel
theorem d_T_no_6 : decode b_T_no 6 = .ok (.iadd, 1) := by decide +kernel
theorem d_T_no_7 : decode b_T_no 7 = .ok (.putfield 68, 3) := by decide +kernel
theorem d_T_no_10 : decode b_T_no 10 = .ok (.bipush (-3), 2) := by decide +kernel
theorem d_T_no_12 : decode b_T_no 12 = .ok (.ireturn, 1) := by decide +kernel
theorem d_T_with_0 : decode b_T_with 0 = .ok (.iload_n 2, 1) := by decide +kernel
theorem d_T_with_1 : decode b_T_with 1 = .ok (.ifCond .eq 11, 3) := by decide +kernel
theorem d_T_with_4 : decode b_T_with 4 = .ok (.iload_n 0, 1) := by decide +kernel
theorem d_T_with_5 : decode b_T_with 5 = .ok (.iconst 1, 1) := by decide +kernel
theorem d_T_with_6 : decode b_T_with 6 = .ok (.iload_n 1, 1) := by decide +kernel
theorem d_T_with_7 : decode b_T_with 7 = .ok (.ishl, 1) := by decide +kernel
theorem d_T_with_8 : decode b_T_with 8 = .ok (.ior, 1) := by decide +kernel
theorem d_T_with_9 : decode b_T_with 9 = .ok (.goto 10, 3) := by decide +kernel
theorem d_T_with_12 : decode b_T_with 12 = .ok (.iload_n 0, 1) := by decide +kernel
theorem d_T_with_13 : decode b_T_with 13 = .ok (.iconst 1, 1) := by decide +kernel
theorem d_T_with_14 : decode b_T_with 14 = .ok (.iload_n 1, 1) := by decide +kernel
theorem d_T_with_15 : decode b_T_with 15 = .ok (.ishl, 1) := by decide +kernel
theorem d_T_with_16 : decode b_T_with 16 = .ok (.iconst (-1), 1) := by decide +kernel
theorem d_T_with_17 : decode b_T_with 17 = .ok (.ixor, 1) := by decide +kernel
theorem d_T_with_18 : decode b_T_with 18 = .ok (.iand, 1) := by decide +kernel
theorem d_T_with_19 : decode b_T_with 19 = .ok (.ireturn, 1) := by decide +kernel
theorem d_F_putWall_0 : decode b_F_putWall 0 = .ok (.aload_n 0, 1) := by decide +kernel
theorem d_F_putWall_1 : decode b_F_putWall 1 = .ok (.aload_n 0, 1) := by decide +kernel
theorem d_F_putWall_2 : decode b_F_putWall 2 = .ok (.getfield 42, 3) := by decide +kernel
theorem d_F_putWall_5 : decode b_F_putWall 5 = .ok (.iload_n 1, 1) := by decide +kernel
theorem d_F_putWall_6 : decode b_F_putWall 6 = .ok (.iload_n 2, 1) := by decide +kernel
theorem d_F_putWall_7 : decode b_F_putWall 7 = .ok (.invokestatic 63, 3) := by decide +kernel
theorem d_F_putWall_10 : decode b_F_putWall 10 = .ok (.putfield 42, 3) := by decide +kernel
theorem d_F_putWall_13 : decode b_F_putWall 13 = .ok (.return_, 1) := by decide +kernel
theorem d_T_wall_0 : decode b_T_wall 0 = .ok (.iload_n 1, 1) := by decide +kernel
theorem d_T_wall_1 : decode b_T_wall 1 = .ok (.invokestatic 107, 3) := by decide +kernel
theorem d_T_wall_4 : decode b_T_wall 4 = .ok (.ifCond .ne 10, 3) := by decide +kernel
theorem d_T_wall_7 : decode b_T_wall 7 = .ok (.aload_n 0, 1) := by decide +kernel
theorem d_T_wall_8 : decode b_T_wall 8 = .ok (.bipush (-2), 2) := by decide +kernel
theorem d_T_wall_10 : decode b_T_wall 10 = .ok (.invokevirtual 78, 3) := by decide +kernel
theorem d_T_wall_13 : decode b_T_wall 13 = .ok (.ireturn, 1) := by decide +kernel
theorem d_T_wall_14 : decode b_T_wall 14 = .ok (.aload_n 0, 1) := by decide +kernel
theorem d_T_wall_15 : decode b_T_wall 15 = .ok (.getfield 10, 3) := by decide +kernel
theorem d_T_wall_18 : decode b_T_wall 18 = .ok (.iload_n 1, 1) := by decide +kernel
theorem d_T_wall_19 : decode b_T_wall 19 = .ok (.invokevirtual 110, 3) := by decide +kernel
theorem d_T_wall_22 : decode b_T_wall 22 = .ok (.iload_n 2, 1) := by decide +kernel
theorem d_T_wall_23 : decode b_T_wall 23 = .ok (.if_icmp .ne 8, 3) := by decide +kernel
theorem d_T_wall_26 : decode b_T_wall 26 = .ok (.aload_n 0, 1) := by decide +kernel
theorem d_T_wall_27 : decode b_T_wall 27 = .ok (.invokevirtual 113, 3) := by decide +kernel
theorem d_T_wall_30 : decode b_T_wall 30 = .ok (.ireturn, 1) := by decide +kernel
theorem d_T_wall_31 : decode b_T_wall 31 = .ok (.aload_n 0, 1) := by decide +kernel
theorem d_T_wall_32 : decode b_T_wall 32 = .ok (.getfield 10, 3) := by decide +kernel
theorem d_T_wall_35 : decode b_T_wall 35 = .ok (.iload_n 1, 1) := by decide +kernel
theorem d_T_wall_36 : decode b_T_wall 36 = .ok (.iload_n 2, 1) := by decide +kernel
theorem d_T_wall_37 : decode b_T_wall 37 = .ok (.invokevirtual 117, 3) := by decide +kernel
theorem d_T_wall_40 : decode b_T_wall 40 = .ok (.iconst 1, 1) := by decide +kernel
theorem d_T_wall_41 : decode b_T_wall 41 = .ok (.ireturn, 1) := by decide +kernel
theorem d_F_mayBet_0 : decode b_F_mayBet 0 = .ok (.iload_n 0, 1) := by decide +kernel
theorem d_F_mayBet_1 : decode b_F_mayBet 1 = .ok (.invokestatic 67, 3) := by decide +kernel
theorem d_F_mayBet_4 : decode b_F_mayBet 4 = .ok (.ifCond .eq 17, 3) := by decide +kernel
theorem d_F_mayBet_7 : decode b_F_mayBet 7 = .ok (.iload_n 1, 1) := by decide +kernel
theorem d_F_mayBet_8 : decode b_F_mayBet 8 = .ok (.iconst 0, 1) := by decide +kernel
theorem d_F_mayBet_9 : decode b_F_mayBet 9 = .ok (.bipush 20, 2) := by decide +kernel
theorem d_F_mayBet_11 : decode b_F_mayBet 11 = .ok (.invokestatic 31, 3) := by decide +kernel
theorem d_F_mayBet_14 : decode b_F_mayBet 14 = .ok (.ifCond .eq 7, 3) := by decide +kernel
theorem d_F_mayBet_17 : decode b_F_mayBet 17 = .ok (.iconst 1, 1) := by decide +kernel
theorem d_F_mayBet_18 : decode b_F_mayBet 18 = .ok (.goto 4, 3) := by decide +kernel
theorem d_F_mayBet_21 : decode b_F_mayBet 21 = .ok (.iconst 0, 1) := by decide +kernel
theorem d_F_mayBet_22 : decode b_F_mayBet 22 = .ok (.ireturn, 1) := by decide +kernel
theorem d_T_odds_0 : decode b_T_odds 0 = .ok (.iload_n 1, 1) := by decide +kernel
theorem d_T_odds_1 : decode b_T_odds 1 = .ok (.iload_n 2, 1) := by decide +kernel
theorem d_T_odds_2 : decode b_T_odds 2 = .ok (.invokestatic 121, 3) := by decide +kernel
theorem d_T_odds_5 : decode b_T_odds 5 = .ok (.ifCond .ne 10, 3) := by decide +kernel
theorem d_T_odds_8 : decode b_T_odds 8 = .ok (.aload_n 0, 1) := by decide +kernel
theorem d_T_odds_9 : decode b_T_odds 9 = .ok (.bipush (-2), 2) := by decide +kernel
theorem d_T_odds_11 : decode b_T_odds 11 = .ok (.invokevirtual 78, 3) := by decide +kernel
theorem d_T_odds_14 : decode b_T_odds 14 = .ok (.ireturn, 1) := by decide +kernel
theorem d_T_odds_15 : decode b_T_odds 15 = .ok (.aload_n 0, 1) := by decide +kernel
theorem d_T_odds_16 : decode b_T_odds 16 = .ok (.getfield 10, 3) := by decide +kernel
theorem d_T_odds_19 : decode b_T_odds 19 = .ok (.getfield 125, 3) := by decide +kernel
theorem d_T_odds_22 : decode b_T_odds 22 = .ok (.iload_n 1, 1) := by decide +kernel
theorem d_T_odds_23 : decode b_T_odds 23 = .ok (.iaload, 1) := by decide +kernel
theorem d_T_odds_24 : decode b_T_odds 24 = .ok (.istore_n 3, 1) := by decide +kernel
theorem d_T_odds_25 : decode b_T_odds 25 = .ok (.aload_n 0, 1) := by decide +kernel
theorem d_T_odds_26 : decode b_T_odds 26 = .ok (.getfield 10, 3) := by decide +kernel
theorem d_T_odds_29 : decode b_T_odds 29 = .ok (.getfield 125, 3) := by decide +kernel
theorem d_T_odds_32 : decode b_T_odds 32 = .ok (.iload_n 1, 1) := by decide +kernel
theorem d_T_odds_33 : decode b_T_odds 33 = .ok (.iload_n 2, 1) := by decide +kernel
theorem d_T_odds_34 : decode b_T_odds 34 = .ok (.iastore, 1) := by decide +kernel
theorem d_T_odds_35 : decode b_T_odds 35 = .ok (.iload_n 3, 1) := by decide +kernel
theorem d_T_odds_36 : decode b_T_odds 36 = .ok (.ireturn, 1) := by decide +kernel
theorem d_T_full_0 : decode b_T_full 0 = .ok (.aload_n 0, 1) := by decide +kernel
theorem d_T_full_1 : decode b_T_full 1 = .ok (.dup, 1) := by decide +kernel
theorem d_T_full_2 : decode b_T_full 2 = .ok (.getfield 71, 3) := by decide +kernel
theorem d_T_full_5 : decode b_T_full 5 = .ok (.iconst 1, 1) := by decide +kernel
theorem d_T_full_6 : decode b_T_full 6 = .ok (.iadd, 1) := by decide +kernel
theorem d_T_full_7 : decode b_T_full 7 = .ok (.putfield 71, 3) := by decide +kernel
theorem d_T_full_10 : decode b_T_full 10 = .ok (.bipush (-4), 2) := by decide +kernel
theorem d_T_full_12 : decode b_T_full 12 = .ok (.ireturn, 1) := by decide +kernel
theorem d_T_type_0 : decode b_T_type 0 = .ok (.iload_n 1, 1) := by decide +kernel
theorem d_T_type_1 : decode b_T_type 1 = .ok (.iconst 0, 1) := by decide +kernel
theorem d_T_type_2 : decode b_T_type 2 = .ok (.bipush 127, 2) := by decide +kernel
theorem d_T_type_4 : decode b_T_type 4 = .ok (.invokestatic 128, 3) := by decide +kernel
theorem d_T_type_7 : decode b_T_type 7 = .ok (.ifCond .ne 10, 3) := by decide +kernel
theorem d_T_type_10 : decode b_T_type 10 = .ok (.aload_n 0, 1) := by decide +kernel
theorem d_T_type_11 : decode b_T_type 11 = .ok (.bipush (-2), 2) := by decide +kernel
theorem d_T_type_13 : decode b_T_type 13 = .ok (.invokevirtual 78, 3) := by decide +kernel
theorem d_T_type_16 : decode b_T_type 16 = .ok (.ireturn, 1) := by decide +kernel
theorem d_T_type_17 : decode b_T_type 17 = .ok (.aload_n 0, 1) := by decide +kernel
theorem d_T_type_18 : decode b_T_type 18 = .ok (.getfield 55, 3) := by decide +kernel
theorem d_T_type_21 : decode b_T_type 21 = .ok (.sipush 150, 3) := by decide +kernel
theorem d_T_type_24 : decode b_T_type 24 = .ok (.if_icmp .lt 8, 3) := by decide +kernel
theorem d_T_type_27 : decode b_T_type 27 = .ok (.aload_n 0, 1) := by decide +kernel
theorem d_T_type_28 : decode b_T_type 28 = .ok (.invokevirtual 132, 3) := by decide +kernel
theorem d_T_type_31 : decode b_T_type 31 = .ok (.ireturn, 1) := by decide +kernel
theorem d_T_type_32 : decode b_T_type 32 = .ok (.aload_n 0, 1) := by decide +kernel
theorem d_T_type_33 : decode b_T_type 33 = .ok (.getfield 34, 3) := by decide +kernel
theorem d_T_type_36 : decode b_T_type 36 = .ok (.aload_n 0, 1) := by decide +kernel
theorem d_T_type_37 : decode b_T_type 37 = .ok (.getfield 55, 3) := by decide +kernel
theorem d_T_type_40 : decode b_T_type 40 = .ok (.iload_n 1, 1) := by decide +kernel
theorem d_T_type_41 : decode b_T_type 41 = .ok (.i2b, 1) := by decide +kernel
theorem d_T_type_42 : decode b_T_type 42 = .ok (.bastore, 1) := by decide +kernel
theorem d_T_type_43 : decode b_T_type 43 = .ok (.aload_n 0, 1) := by decide +kernel
theorem d_T_type_44 : decode b_T_type 44 = .ok (.dup, 1) := by decide +kernel
theorem d_T_type_45 : decode b_T_type 45 = .ok (.getfield 55, 3) := by decide +kernel
theorem d_T_type_48 : decode b_T_type 48 = .ok (.iconst 1, 1) := by decide +kernel
theorem d_T_type_49 : decode b_T_type 49 = .ok (.iadd, 1) := by decide +kernel
theorem d_T_type_50 : decode b_T_type 50 = .ok (.putfield 55, 3) := by decide +kernel
theorem d_T_type_53 : decode b_T_type 53 = .ok (.aload_n 0, 1) := by decide +kernel
theorem d_T_type_54 : decode b_T_type 54 = .ok (.getfield 55, 3) := by decide +kernel
theorem d_T_type_57 : decode b_T_type 57 = .ok (.ireturn, 1) := by decide +kernel
theorem d_T_clear_0 : decode b_T_clear 0 = .ok (.aload_n 0, 1) := by decide +kernel
theorem d_T_clear_1 : decode b_T_clear 1 = .ok (.getfield 55, 3) := by decide +kernel
theorem d_T_clear_4 : decode b_T_clear 4 = .ok (.istore_n 1, 1) := by decide +kernel
theorem d_T_clear_5 : decode b_T_clear 5 = .ok (.aload_n 0, 1) := by decide +kernel
theorem d_T_clear_6 : decode b_T_clear 6 = .ok (.iconst 0, 1) := by decide +kernel
theorem d_T_clear_7 : decode b_T_clear 7 = .ok (.putfield 55, 3) := by decide +kernel
theorem d_T_clear_10 : decode b_T_clear 10 = .ok (.iload_n 1, 1) := by decide +kernel
theorem d_T_clear_11 : decode b_T_clear 11 = .ok (.ireturn, 1) := by decide +kernel
theorem d_T_isStrength_0 : decode b_T_isStrength 0 = .ok (.iload_n 0, 1) := by decide +kernel
theorem d_T_isStrength_1 : decode b_T_isStrength 1 = .ok (.iconst 0, 1) := by decide +kernel
theorem d_T_isStrength_2 : decode b_T_isStrength 2 = .ok (.bipush 60, 2) := by decide +kernel
theorem d_T_isStrength_4 : decode b_T_isStrength 4 = .ok (.invokestatic 128, 3) := by decide +kernel
theorem d_T_isStrength_7 : decode b_T_isStrength 7 = .ok (.ireturn, 1) := by decide +kernel
theorem d_T_isGust_0 : decode b_T_isGust 0 = .ok (.iload_n 0, 1) := by decide +kernel
theorem d_T_isGust_1 : decode b_T_isGust 1 = .ok (.invokestatic 107, 3) := by decide +kernel
theorem d_T_isGust_4 : decode b_T_isGust 4 = .ok (.ifCond .eq 14, 3) := by decide +kernel
theorem d_T_isGust_7 : decode b_T_isGust 7 = .ok (.iload_n 1, 1) := by decide +kernel
theorem d_T_isGust_8 : decode b_T_isGust 8 = .ok (.invokestatic 240, 3) := by decide +kernel
theorem d_T_isGust_11 : decode b_T_isGust 11 = .ok (.ifCond .eq 7, 3) := by decide +kernel
theorem d_T_isGust_14 : decode b_T_isGust 14 = .ok (.iconst 1, 1) := by decide +kernel
theorem d_T_isGust_15 : decode b_T_isGust 15 = .ok (.goto 4, 3) := by decide +kernel
theorem d_T_isGust_18 : decode b_T_isGust 18 = .ok (.iconst 0, 1) := by decide +kernel
theorem d_T_isGust_19 : decode b_T_isGust 19 = .ok (.ireturn, 1) := by decide +kernel
theorem d_JI_bitCount_0 : decode b_JI_bitCount 0 = .ok (.iload_n 0, 1) := by decide +kernel
theorem d_JI_bitCount_1 : decode b_JI_bitCount 1 = .ok (.iload_n 0, 1) := by decide +kernel
theorem d_JI_bitCount_2 : decode b_JI_bitCount 2 = .ok (.iconst 1, 1) := by decide +kernel
theorem d_JI_bitCount_3 : decode b_JI_bitCount 3 = .ok (.iushr, 1) := by decide +kernel
theorem d_JI_bitCount_4 : decode b_JI_bitCount 4 = .ok (.ldc_w 265, 3) := by decide +kernel
theorem d_JI_bitCount_7 : decode b_JI_bitCount 7 = .ok (.iand, 1) := by decide +kernel
theorem d_JI_bitCount_8 : decode b_JI_bitCount 8 = .ok (.isub, 1) := by decide +kernel
theorem d_JI_bitCount_9 : decode b_JI_bitCount 9 = .ok (.istore_n 0, 1) := by decide +kernel
theorem d_JI_bitCount_10 : decode b_JI_bitCount 10 = .ok (.iload_n 0, 1) := by decide +kernel
theorem d_JI_bitCount_11 : decode b_JI_bitCount 11 = .ok (.ldc_w 266, 3) := by decide +kernel
theorem d_JI_bitCount_14 : decode b_JI_bitCount 14 = .ok (.iand, 1) := by decide +kernel
theorem d_JI_bitCount_15 : decode b_JI_bitCount 15 = .ok (.iload_n 0, 1) := by decide +kernel
theorem d_JI_bitCount_16 : decode b_JI_bitCount 16 = .ok (.iconst 2, 1) := by decide +kernel
theorem d_JI_bitCount_17 : decode b_JI_bitCount 17 = .ok (.iushr, 1) := by decide +kernel
theorem d_JI_bitCount_18 : decode b_JI_bitCount 18 = .ok (.ldc_w 266, 3) := by decide +kernel
theorem d_JI_bitCount_21 : decode b_JI_bitCount 21 = .ok (.iand, 1) := by decide +kernel
theorem d_JI_bitCount_22 : decode b_JI_bitCount 22 = .ok (.iadd, 1) := by decide +kernel
theorem d_JI_bitCount_23 : decode b_JI_bitCount 23 = .ok (.istore_n 0, 1) := by decide +kernel
theorem d_JI_bitCount_24 : decode b_JI_bitCount 24 = .ok (.iload_n 0, 1) := by decide +kernel
theorem d_JI_bitCount_25 : decode b_JI_bitCount 25 = .ok (.iload_n 0, 1) := by decide +kernel
theorem d_JI_bitCount_26 : decode b_JI_bitCount 26 = .ok (.iconst 4, 1) := by decide +kernel
theorem d_JI_bitCount_27 : decode b_JI_bitCount 27 = .ok (.iushr, 1) := by decide +kernel
theorem d_JI_bitCount_28 : decode b_JI_bitCount 28 = .ok (.iadd, 1) := by decide +kernel
theorem d_JI_bitCount_29 : decode b_JI_bitCount 29 = .ok (.ldc_w 267, 3) := by decide +kernel
theorem d_JI_bitCount_32 : decode b_JI_bitCount 32 = .ok (.iand, 1) := by decide +kernel
theorem d_JI_bitCount_33 : decode b_JI_bitCount 33 = .ok (.istore_n 0, 1) := by decide +kernel
theorem d_JI_bitCount_34 : decode b_JI_bitCount 34 = .ok (.iload_n 0, 1) := by decide +kernel
theorem d_JI_bitCount_35 : decode b_JI_bitCount 35 = .ok (.iload_n 0, 1) := by decide +kernel
theorem d_JI_bitCount_36 : decode b_JI_bitCount 36 = .ok (.bipush 8, 2) := by decide +kernel
theorem d_JI_bitCount_38 : decode b_JI_bitCount 38 = .ok (.iushr, 1) := by decide +kernel
theorem d_JI_bitCount_39 : decode b_JI_bitCount 39 = .ok (.iadd, 1) := by decide +kernel
theorem d_JI_bitCount_40 : decode b_JI_bitCount 40 = .ok (.istore_n 0, 1) := by decide +kernel
theorem d_JI_bitCount_41 : decode b_JI_bitCount 41 = .ok (.iload_n 0, 1) := by decide +kernel
theorem d_JI_bitCount_42 : decode b_JI_bitCount 42 = .ok (.iload_n 0, 1) := by decide +kernel
theorem d_JI_bitCount_43 : decode b_JI_bitCount 43 = .ok (.bipush 16, 2) := by decide +kernel
theorem d_JI_bitCount_45 : decode b_JI_bitCount 45 = .ok (.iushr, 1) := by decide +kernel
theorem d_JI_bitCount_46 : decode b_JI_bitCount 46 = .ok (.iadd, 1) := by decide +kernel
theorem d_JI_bitCount_47 : decode b_JI_bitCount 47 = .ok (.istore_n 0, 1) := by decide +kernel
theorem d_JI_bitCount_48 : decode b_JI_bitCount 48 = .ok (.iload_n 0, 1) := by decide +kernel
theorem d_JI_bitCount_49 : decode b_JI_bitCount 49 = .ok (.bipush 63, 2) := by decide +kernel
theorem d_JI_bitCount_51 : decode b_JI_bitCount 51 = .ok (.iand, 1) := by decide +kernel
theorem d_JI_bitCount_52 : decode b_JI_bitCount 52 = .ok (.ireturn, 1) := by decide +kernel
theorem d_T_isLost_0 : decode b_T_isLost 0 = .ok (.iload_n 0, 1) := by decide +kernel
theorem d_T_isLost_1 : decode b_T_isLost 1 = .ok (.invokestatic 216, 3) := by decide +kernel
theorem d_T_isLost_4 : decode b_T_isLost 4 = .ok (.iconst 2, 1) := by decide +kernel
theorem d_T_isLost_5 : decode b_T_isLost 5 = .ok (.if_icmp .ge 7, 3) := by decide +kernel
theorem d_T_isLost_8 : decode b_T_isLost 8 = .ok (.iconst 1, 1) := by decide +kernel
theorem d_T_isLost_9 : decode b_T_isLost 9 = .ok (.goto 4, 3) := by decide +kernel
theorem d_T_isLost_12 : decode b_T_isLost 12 = .ok (.iconst 0, 1) := by decide +kernel
theorem d_T_isLost_13 : decode b_T_isLost 13 = .ok (.ireturn, 1) := by decide +kernel
theorem d_F_remember_0 : decode b_F_remember 0 = .ok (.aload_n 0, 1) := by decide +kernel
theorem d_F_remember_1 : decode b_F_remember 1 = .ok (.getfield 48, 3) := by decide +kernel
theorem d_F_remember_4 : decode b_F_remember 4 = .ok (.bipush 10, 2) := by decide +kernel
theorem d_F_remember_6 : decode b_F_remember 6 = .ok (.if_icmp .ne 28, 3) := by decide +kernel
theorem d_F_remember_9 : decode b_F_remember 9 = .ok (.aload_n 0, 1) := by decide +kernel
theorem d_F_remember_10 : decode b_F_remember 10 = .ok (.getfield 24, 3) := by decide +kernel
theorem d_F_remember_13 : decode b_F_remember 13 = .ok (.iconst 1, 1) := by decide +kernel
theorem d_F_remember_14 : decode b_F_remember 14 = .ok (.aload_n 0, 1) := by decide +kernel
theorem d_F_remember_15 : decode b_F_remember 15 = .ok (.getfield 24, 3) := by decide +kernel
theorem d_F_remember_18 : decode b_F_remember 18 = .ok (.iconst 0, 1) := by decide +kernel
theorem d_F_remember_19 : decode b_F_remember 19 = .ok (.bipush 9, 2) := by decide +kernel
theorem d_F_remember_21 : decode b_F_remember 21 = .ok (.invokestatic 70, 3) := by decide +kernel
theorem d_F_remember_24 : decode b_F_remember 24 = .ok (.aload_n 0, 1) := by decide +kernel
theorem d_F_remember_25 : decode b_F_remember 25 = .ok (.dup, 1) := by decide +kernel
theorem d_F_remember_26 : decode b_F_remember 26 = .ok (.getfield 48, 3) := by decide +kernel
theorem d_F_remember_29 : decode b_F_remember 29 = .ok (.iconst 1, 1) := by decide +kernel
theorem d_F_remember_30 : decode b_F_remember 30 = .ok (.isub, 1) := by decide +kernel
theorem d_F_remember_31 : decode b_F_remember 31 = .ok (.putfield 48, 3) := by decide +kernel
theorem d_F_remember_34 : decode b_F_remember 34 = .ok (.aload_n 0, 1) := by decide +kernel
theorem d_F_remember_35 : decode b_F_remember 35 = .ok (.getfield 24, 3) := by decide +kernel
theorem d_F_remember_38 : decode b_F_remember 38 = .ok (.aload_n 0, 1) := by decide +kernel
theorem d_F_remember_39 : decode b_F_remember 39 = .ok (.getfield 48, 3) := by decide +kernel
theorem d_F_remember_42 : decode b_F_remember 42 = .ok (.aload_n 0, 1) := by decide +kernel
theorem d_F_remember_43 : decode b_F_remember 43 = .ok (.getfield 45, 3) := by decide +kernel
theorem d_F_remember_46 : decode b_F_remember 46 = .ok (.iastore, 1) := by decide +kernel
theorem d_F_remember_47 : decode b_F_remember 47 = .ok (.aload_n 0, 1) := by decide +kernel
theorem d_F_remember_48 : decode b_F_remember 48 = .ok (.dup, 1) := by decide +kernel
theorem d_F_remember_49 : decode b_F_remember 49 = .ok (.getfield 48, 3) := by decide +kernel
theorem d_F_remember_52 : decode b_F_remember 52 = .ok (.iconst 1, 1) := by decide +kernel
theorem d_F_remember_53 : decode b_F_remember 53 = .ok (.iadd, 1) := by decide +kernel
theorem d_F_remember_54 : decode b_F_remember 54 = .ok (.putfield 48, 3) := by decide +kernel
theorem d_F_remember_57 : decode b_F_remember 57 = .ok (.return_, 1) := by decide +kernel
theorem d_G_overTheField_0 : decode b_G_overTheField 0 = .ok (.aload_n 0, 1) := by decide +kernel
theorem d_G_overTheField_1 : decode b_G_overTheField 1 = .ok (.aload_n 0, 1) := by decide +kernel
theorem d_G_overTheField_2 : decode b_G_overTheField 2 = .ok (.getfield 34, 3) := by decide +kernel
theorem d_G_overTheField_5 : decode b_G_overTheField 5 = .ok (.getfield 38, 3) := by decide +kernel
theorem d_G_overTheField_8 : decode b_G_overTheField 8 = .ok (.putfield 22, 3) := by decide +kernel
theorem d_G_overTheField_11 : decode b_G_overTheField 11 = .ok (.aload_n 0, 1) := by decide +kernel
theorem d_G_overTheField_12 : decode b_G_overTheField 12 = .ok (.aload_n 0, 1) := by decide +kernel
theorem d_G_overTheField_13 : decode b_G_overTheField 13 = .ok (.getfield 34, 3) := by decide +kernel
theorem d_G_overTheField_16 : decode b_G_overTheField 16 = .ok (.getfield 41, 3) := by decide +kernel
theorem d_G_overTheField_19 : decode b_G_overTheField 19 = .ok (.putfield 25, 3) := by decide +kernel
theorem d_G_overTheField_22 : decode b_G_overTheField 22 = .ok (.aload_n 0, 1) := by decide +kernel
theorem d_G_overTheField_23 : decode b_G_overTheField 23 = .ok (.iconst 0, 1) := by decide +kernel
theorem d_G_overTheField_24 : decode b_G_overTheField 24 = .ok (.putfield 28, 3) := by decide +kernel
theorem d_G_overTheField_27 : decode b_G_overTheField 27 = .ok (.aload_n 0, 1) := by decide +kernel
theorem d_G_overTheField_28 : decode b_G_overTheField 28 = .ok (.iconst 0, 1) := by decide +kernel
theorem d_G_overTheField_29 : decode b_G_overTheField 29 = .ok (.putfield 31, 3) := by decide +kernel
theorem d_G_overTheField_32 : decode b_G_overTheField 32 = .ok (.return_, 1) := by decide +kernel
theorem d_T_asItIs_0 : decode b_T_asItIs 0 = .ok (.aload_n 0, 1) := by decide +kernel
theorem d_T_asItIs_1 : decode b_T_asItIs 1 = .ok (.getfield 21, 3) := by decide +kernel
theorem d_T_asItIs_4 : decode b_T_asItIs 4 = .ok (.invokevirtual 318, 3) := by decide +kernel
theorem d_T_asItIs_7 : decode b_T_asItIs 7 = .ok (.aload_n 0, 1) := by decide +kernel
theorem d_T_asItIs_8 : decode b_T_asItIs 8 = .ok (.getfield 21, 3) := by decide +kernel
theorem d_T_asItIs_11 : decode b_T_asItIs 11 = .ok (.areturn, 1) := by decide +kernel
theorem d_G_behindWalls_0 : decode b_G_behindWalls 0 = .ok (.aload_n 0, 1) := by decide +kernel
theorem d_G_behindWalls_1 : decode b_G_behindWalls 1 = .ok (.getfield 25, 3) := by decide +kernel
theorem d_G_behindWalls_4 : decode b_G_behindWalls 4 = .ok (.iload_n 1, 1) := by decide +kernel
theorem d_G_behindWalls_5 : decode b_G_behindWalls 5 = .ok (.invokestatic 63, 3) := by decide +kernel
theorem d_G_behindWalls_8 : decode b_G_behindWalls 8 = .ok (.ifCond .eq 7, 3) := by decide +kernel
theorem d_G_behindWalls_11 : decode b_G_behindWalls 11 = .ok (.iload_n 2, 1) := by decide +kernel
theorem d_G_behindWalls_12 : decode b_G_behindWalls 12 = .ok (.iconst 2, 1) := by decide +kernel
theorem d_G_behindWalls_13 : decode b_G_behindWalls 13 = .ok (.idiv, 1) := by decide +kernel
theorem d_G_behindWalls_14 : decode b_G_behindWalls 14 = .ok (.ireturn, 1) := by decide +kernel
theorem d_G_behindWalls_15 : decode b_G_behindWalls 15 = .ok (.aload_n 0, 1) := by decide +kernel
theorem d_G_behindWalls_16 : decode b_G_behindWalls 16 = .ok (.getfield 25, 3) := by decide +kernel
theorem d_G_behindWalls_19 : decode b_G_behindWalls 19 = .ok (.iload_n 1, 1) := by decide +kernel
theorem d_G_behindWalls_20 : decode b_G_behindWalls 20 = .ok (.iconst 1, 1) := by decide +kernel
theorem d_G_behindWalls_21 : decode b_G_behindWalls 21 = .ok (.iadd, 1) := by decide +kernel
theorem d_G_behindWalls_22 : decode b_G_behindWalls 22 = .ok (.bipush 8, 2) := by decide +kernel
theorem d_G_behindWalls_24 : decode b_G_behindWalls 24 = .ok (.irem, 1) := by decide +kernel
theorem d_G_behindWalls_25 : decode b_G_behindWalls 25 = .ok (.invokestatic 63, 3) := by decide +kernel
theorem d_G_behindWalls_28 : decode b_G_behindWalls 28 = .ok (.ifCond .ne 22, 3) := by decide +kernel
theorem d_G_behindWalls_31 : decode b_G_behindWalls 31 = .ok (.aload_n 0, 1) := by decide +kernel
theorem d_G_behindWalls_32 : decode b_G_behindWalls 32 = .ok (.getfield 25, 3) := by decide +kernel
theorem d_G_behindWalls_35 : decode b_G_behindWalls 35 = .ok (.iload_n 1, 1) := by decide +kernel
theorem d_G_behindWalls_36 : decode b_G_behindWalls 36 = .ok (.bipush 8, 2) := by decide +kernel
theorem d_G_behindWalls_38 : decode b_G_behindWalls 38 = .ok (.iadd, 1) := by decide +kernel
theorem d_G_behindWalls_39 : decode b_G_behindWalls 39 = .ok (.iconst 1, 1) := by decide +kernel
theorem d_G_behindWalls_40 : decode b_G_behindWalls 40 = .ok (.isub, 1) := by decide +kernel
theorem d_G_behindWalls_41 : decode b_G_behindWalls 41 = .ok (.bipush 8, 2) := by decide +kernel
theorem d_G_behindWalls_43 : decode b_G_behindWalls 43 = .ok (.irem, 1) := by decide +kernel
theorem d_G_behindWalls_44 : decode b_G_behindWalls 44 = .ok (.invokestatic 63, 3) := by decide +kernel
theorem d_G_behindWalls_47 : decode b_G_behindWalls 47 = .ok (.ifCond .eq 7, 3) := by decide +kernel
theorem d_G_behindWalls_50 : decode b_G_behindWalls 50 = .ok (.iconst 1, 1) := by decide +kernel
theorem d_G_behindWalls_51 : decode b_G_behindWalls 51 = .ok (.goto 4, 3) := by decide +kernel
theorem d_G_behindWalls_54 : decode b_G_behindWalls 54 = .ok (.iconst 0, 1) := by decide +kernel
theorem d_G_behindWalls_55 : decode b_G_behindWalls 55 = .ok (.istore_n 3, 1) := by decide +kernel
theorem d_G_behindWalls_56 : decode b_G_behindWalls 56 = .ok (.iload_n 3, 1) := by decide +kernel
theorem d_G_behindWalls_57 : decode b_G_behindWalls 57 = .ok (.ifCond .eq 11, 3) := by decide +kernel
theorem d_G_behindWalls_60 : decode b_G_behindWalls 60 = .ok (.iload_n 2, 1) := by decide +kernel
theorem d_G_behindWalls_61 : decode b_G_behindWalls 61 = .ok (.iload_n 2, 1) := by decide +kernel
theorem d_G_behindWalls_62 : decode b_G_behindWalls 62 = .ok (.iconst 4, 1) := by decide +kernel
theorem d_G_behindWalls_63 : decode b_G_behindWalls 63 = .ok (.idiv, 1) := by decide +kernel
theorem d_G_behindWalls_64 : decode b_G_behindWalls 64 = .ok (.iadd, 1) := by decide +kernel
theorem d_G_behindWalls_65 : decode b_G_behindWalls 65 = .ok (.goto 4, 3) := by decide +kernel
theorem d_G_behindWalls_68 : decode b_G_behindWalls 68 = .ok (.iload_n 2, 1) := by decide +kernel
theorem d_G_behindWalls_69 : decode b_G_behindWalls 69 = .ok (.ireturn, 1) := by decide +kernel
theorem d_G_wayOf_0 : decode b_G_wayOf 0 = .ok (.iload_n 1, 1) := by decide +kernel
theorem d_G_wayOf_1 : decode b_G_wayOf 1 = .ok (.bipush 8, 2) := by decide +kernel
theorem d_G_wayOf_3 : decode b_G_wayOf 3 = .ok (.imul, 1) := by decide +kernel
theorem d_G_wayOf_4 : decode b_G_wayOf 4 = .ok (.aload_n 0, 1) := by decide +kernel
theorem d_G_wayOf_5 : decode b_G_wayOf 5 = .ok (.getfield 34, 3) := by decide +kernel
theorem d_G_wayOf_8 : decode b_G_wayOf 8 = .ok (.getfield 42, 3) := by decide +kernel
theorem d_G_wayOf_11 : decode b_G_wayOf 11 = .ok (.idiv, 1) := by decide +kernel
theorem d_G_wayOf_12 : decode b_G_wayOf 12 = .ok (.aload_n 0, 1) := by decide +kernel
theorem d_G_wayOf_13 : decode b_G_wayOf 13 = .ok (.getfield 28, 3) := by decide +kernel
theorem d_G_wayOf_16 : decode b_G_wayOf 16 = .ok (.iadd, 1) := by decide +kernel
theorem d_G_wayOf_17 : decode b_G_wayOf 17 = .ok (.bipush 8, 2) := by decide +kernel
theorem d_G_wayOf_19 : decode b_G_wayOf 19 = .ok (.irem, 1) := by decide +kernel
theorem d_G_wayOf_20 : decode b_G_wayOf 20 = .ok (.ireturn, 1) := by decide +kernel
theorem d_JM_abs_0 : decode b_JM_abs 0 = .ok (.iload_n 0, 1) := by decide +kernel
theorem d_JM_abs_1 : decode b_JM_abs 1 = .ok (.ifCond .ge 8, 3) := by decide +kernel
theorem d_JM_abs_4 : decode b_JM_abs 4 = .ok (.iload_n 0, 1) := by decide +kernel
theorem d_JM_abs_5 : decode b_JM_abs 5 = .ok (.ineg, 1) := by decide +kernel
theorem d_JM_abs_6 : decode b_JM_abs 6 = .ok (.goto 4, 3) := by decide +kernel
theorem d_JM_abs_9 : decode b_JM_abs 9 = .ok (.iload_n 0, 1) := by decide +kernel
theorem d_JM_abs_10 : decode b_JM_abs 10 = .ok (.ireturn, 1) := by decide +kernel
theorem d_JM_min_0 : decode b_JM_min 0 = .ok (.iload_n 0, 1) := by decide +kernel
theorem d_JM_min_1 : decode b_JM_min 1 = .ok (.iload_n 1, 1) := by decide +kernel
theorem d_JM_min_2 : decode b_JM_min 2 = .ok (.if_icmp .gt 7, 3) := by decide +kernel
theorem d_JM_min_5 : decode b_JM_min 5 = .ok (.iload_n 0, 1) := by decide +kernel
theorem d_JM_min_6 : decode b_JM_min 6 = .ok (.goto 4, 3) := by decide +kernel
theorem d_JM_min_9 : decode b_JM_min 9 = .ok (.iload_n 1, 1) := by decide +kernel
theorem d_JM_min_10 : decode b_JM_min 10 = .ok (.ireturn, 1) := by decide +kernel
theorem d_G_shareOf_0 : decode b_G_shareOf 0 = .ok (.aload_n 0, 1) := by decide +kernel
theorem d_G_shareOf_1 : decode b_G_shareOf 1 = .ok (.iload_n 1, 1) := by decide +kernel
theorem d_G_shareOf_2 : decode b_G_shareOf 2 = .ok (.invokevirtual 80, 3) := by decide +kernel
theorem d_G_shareOf_5 : decode b_G_shareOf 5 = .ok (.iload_n 2, 1) := by decide +kernel
theorem d_G_shareOf_6 : decode b_G_shareOf 6 = .ok (.isub, 1) := by decide +kernel
theorem d_G_shareOf_7 : decode b_G_shareOf 7 = .ok (.invokestatic 83, 3) := by decide +kernel
theorem d_G_shareOf_10 : decode b_G_shareOf 10 = .ok (.istore_n 3, 1) := by decide +kernel
theorem d_G_shareOf_11 : decode b_G_shareOf 11 = .ok (.iconst 4, 1) := by decide +kernel
theorem d_G_shareOf_12 : decode b_G_shareOf 12 = .ok (.iload_n 3, 1) := by decide +kernel
theorem d_G_shareOf_13 : decode b_G_shareOf 13 = .ok (.bipush 8, 2) := by decide +kernel
theorem d_G_shareOf_15 : decode b_G_shareOf 15 = .ok (.iload_n 3, 1) := by decide +kernel
theorem d_G_shareOf_16 : decode b_G_shareOf 16 = .ok (.isub, 1) := by decide +kernel
theorem d_G_shareOf_17 : decode b_G_shareOf 17 = .ok (.invokestatic 86, 3) := by decide +kernel
theorem d_G_shareOf_20 : decode b_G_shareOf 20 = .ok (.isub, 1) := by decide +kernel
theorem d_G_shareOf_21 : decode b_G_shareOf 21 = .ok (.ireturn, 1) := by decide +kernel
theorem d_G_pullOn_0 : decode b_G_pullOn 0 = .ok (.aload_n 0, 1) := by decide +kernel
theorem d_G_pullOn_1 : decode b_G_pullOn 1 = .ok (.getfield 22, 3) := by decide +kernel
theorem d_G_pullOn_4 : decode b_G_pullOn 4 = .ok (.iload_n 1, 1) := by decide +kernel
theorem d_G_pullOn_5 : decode b_G_pullOn 5 = .ok (.invokestatic 63, 3) := by decide +kernel
theorem d_G_pullOn_8 : decode b_G_pullOn 8 = .ok (.ifCond .ne 5, 3) := by decide +kernel
theorem d_G_pullOn_11 : decode b_G_pullOn 11 = .ok (.iconst 0, 1) := by decide +kernel
theorem d_G_pullOn_12 : decode b_G_pullOn 12 = .ok (.ireturn, 1) := by decide +kernel
theorem d_G_pullOn_13 : decode b_G_pullOn 13 = .ok (.aload_n 0, 1) := by decide +kernel
theorem d_G_pullOn_14 : decode b_G_pullOn 14 = .ok (.iload_n 2, 1) := by decide +kernel
theorem d_G_pullOn_15 : decode b_G_pullOn 15 = .ok (.iload_n 3, 1) := by decide +kernel
theorem d_G_pullOn_16 : decode b_G_pullOn 16 = .ok (.invokevirtual 89, 3) := by decide +kernel
theorem d_G_pullOn_19 : decode b_G_pullOn 19 = .ok (.aload_n 0, 1) := by decide +kernel
theorem d_G_pullOn_20 : decode b_G_pullOn 20 = .ok (.iload_n 1, 1) := by decide +kernel
theorem d_G_pullOn_21 : decode b_G_pullOn 21 = .ok (.iload_n 2, 1) := by decide +kernel
theorem d_G_pullOn_22 : decode b_G_pullOn 22 = .ok (.invokevirtual 92, 3) := by decide +kernel
theorem d_G_pullOn_25 : decode b_G_pullOn 25 = .ok (.imul, 1) := by decide +kernel
theorem d_G_pullOn_26 : decode b_G_pullOn 26 = .ok (.iconst 4, 1) := by decide +kernel
theorem d_G_pullOn_27 : decode b_G_pullOn 27 = .ok (.idiv, 1) := by decide +kernel
theorem d_G_pullOn_28 : decode b_G_pullOn 28 = .ok (.ireturn, 1) := by decide +kernel
theorem d_JM_max_0 : decode b_JM_max 0 = .ok (.iload_n 0, 1) := by decide +kernel
theorem d_JM_max_1 : decode b_JM_max 1 = .ok (.iload_n 1, 1) := by decide +kernel
theorem d_JM_max_2 : decode b_JM_max 2 = .ok (.if_icmp .lt 7, 3) := by decide +kernel
theorem d_JM_max_5 : decode b_JM_max 5 = .ok (.iload_n 0, 1) := by decide +kernel
theorem d_JM_max_6 : decode b_JM_max 6 = .ok (.goto 4, 3) := by decide +kernel
theorem d_JM_max_9 : decode b_JM_max 9 = .ok (.iload_n 1, 1) := by decide +kernel
theorem d_JM_max_10 : decode b_JM_max 10 = .ok (.ireturn, 1) := by decide +kernel
theorem d_G_aheadOf_0 : decode b_G_aheadOf 0 = .ok (.iload_n 1, 1) := by decide +kernel
theorem d_G_aheadOf_1 : decode b_G_aheadOf 1 = .ok (.ifCond .le 9, 3) := by decide +kernel
theorem d_G_aheadOf_4 : decode b_G_aheadOf 4 = .ok (.iload_n 1, 1) := by decide +kernel
theorem d_G_aheadOf_5 : decode b_G_aheadOf 5 = .ok (.iconst 1, 1) := by decide +kernel
theorem d_G_aheadOf_6 : decode b_G_aheadOf 6 = .ok (.isub, 1) := by decide +kernel
theorem d_G_aheadOf_7 : decode b_G_aheadOf 7 = .ok (.goto 12, 3) := by decide +kernel
theorem d_G_aheadOf_10 : decode b_G_aheadOf 10 = .ok (.aload_n 0, 1) := by decide +kernel
theorem d_G_aheadOf_11 : decode b_G_aheadOf 11 = .ok (.getfield 34, 3) := by decide +kernel
theorem d_G_aheadOf_14 : decode b_G_aheadOf 14 = .ok (.getfield 42, 3) := by decide +kernel
theorem d_G_aheadOf_17 : decode b_G_aheadOf 17 = .ok (.iconst 1, 1) := by decide +kernel
theorem d_G_aheadOf_18 : decode b_G_aheadOf 18 = .ok (.isub, 1) := by decide +kernel
theorem d_G_aheadOf_19 : decode b_G_aheadOf 19 = .ok (.ireturn, 1) := by decide +kernel
theorem d_G_behind_0 : decode b_G_behind 0 = .ok (.iload_n 1, 1) := by decide +kernel
theorem d_G_behind_1 : decode b_G_behind 1 = .ok (.iconst 1, 1) := by decide +kernel
theorem d_G_behind_2 : decode b_G_behind 2 = .ok (.iadd, 1) := by decide +kernel
theorem d_G_behind_3 : decode b_G_behind 3 = .ok (.aload_n 0, 1) := by decide +kernel
theorem d_G_behind_4 : decode b_G_behind 4 = .ok (.getfield 34, 3) := by decide +kernel
theorem d_G_behind_7 : decode b_G_behind 7 = .ok (.getfield 42, 3) := by decide +kernel
theorem d_G_behind_10 : decode b_G_behind 10 = .ok (.if_icmp .ge 9, 3) := by decide +kernel
theorem d_G_behind_13 : decode b_G_behind 13 = .ok (.iload_n 1, 1) := by decide +kernel
theorem d_G_behind_14 : decode b_G_behind 14 = .ok (.iconst 1, 1) := by decide +kernel
theorem d_G_behind_15 : decode b_G_behind 15 = .ok (.iadd, 1) := by decide +kernel
theorem d_G_behind_16 : decode b_G_behind 16 = .ok (.goto 4, 3) := by decide +kernel
theorem d_G_behind_19 : decode b_G_behind 19 = .ok (.iconst 0, 1) := by decide +kernel
theorem d_G_behind_20 : decode b_G_behind 20 = .ok (.ireturn, 1) := by decide +kernel
theorem d_G_standingBeside_0 : decode b_G_standingBeside 0 = .ok (.aload_n 0, 1) := by decide +kernel
theorem d_G_standingBeside_1 : decode b_G_standingBeside 1 = .ok (.getfield 22, 3) := by decide +kernel
theorem d_G_standingBeside_4 : decode b_G_standingBeside 4 = .ok (.aload_n 0, 1) := by decide +kernel
theorem d_G_standingBeside_5 : decode b_G_standingBeside 5 = .ok (.iload_n 1, 1) := by decide +kernel
theorem d_G_standingBeside_6 : decode b_G_standingBeside 6 = .ok (.invokevirtual 74, 3) := by decide +kernel
theorem d_G_standingBeside_9 : decode b_G_standingBeside 9 = .ok (.ishr, 1) := by decide +kernel
theorem d_G_standingBeside_10 : decode b_G_standingBeside 10 = .ok (.iconst 1, 1) := by decide +kernel
theorem d_G_standingBeside_11 : decode b_G_standingBeside 11 = .ok (.iand, 1) := by decide +kernel
theorem d_G_standingBeside_12 : decode b_G_standingBeside 12 = .ok (.aload_n 0, 1) := by decide +kernel
theorem d_G_standingBeside_13 : decode b_G_standingBeside 13 = .ok (.getfield 22, 3) := by decide +kernel
theorem d_G_standingBeside_16 : decode b_G_standingBeside 16 = .ok (.aload_n 0, 1) := by decide +kernel
theorem d_G_standingBeside_17 : decode b_G_standingBeside 17 = .ok (.iload_n 1, 1) := by decide +kernel
theorem d_G_standingBeside_18 : decode b_G_standingBeside 18 = .ok (.invokevirtual 77, 3) := by decide +kernel
theorem d_G_standingBeside_21 : decode b_G_standingBeside 21 = .ok (.ishr, 1) := by decide +kernel
theorem d_G_standingBeside_22 : decode b_G_standingBeside 22 = .ok (.iconst 1, 1) := by decide +kernel
theorem d_G_standingBeside_23 : decode b_G_standingBeside 23 = .ok (.iand, 1) := by decide +kernel
theorem d_G_standingBeside_24 : decode b_G_standingBeside 24 = .ok (.iadd, 1) := by decide +kernel
theorem d_G_standingBeside_25 : decode b_G_standingBeside 25 = .ok (.ireturn, 1) := by decide +kernel
theorem d_G_holdsAt_0 : decode b_G_holdsAt 0 = .ok (.iload_n 2, 1) := by decide +kernel
theorem d_G_holdsAt_1 : decode b_G_holdsAt 1 = .ok (.aload_n 0, 1) := by decide +kernel
theorem d_G_holdsAt_2 : decode b_G_holdsAt 2 = .ok (.getfield 34, 3) := by decide +kernel
theorem d_G_holdsAt_5 : decode b_G_holdsAt 5 = .ok (.getfield 52, 3) := by decide +kernel
theorem d_G_holdsAt_8 : decode b_G_holdsAt 8 = .ok (.iload_n 1, 1) := by decide +kernel
theorem d_G_holdsAt_9 : decode b_G_holdsAt 9 = .ok (.iaload, 1) := by decide +kernel
theorem d_G_holdsAt_10 : decode b_G_holdsAt 10 = .ok (.imul, 1) := by decide +kernel
theorem d_G_holdsAt_11 : decode b_G_holdsAt 11 = .ok (.istore_n 3, 1) := by decide +kernel
theorem d_G_holdsAt_12 : decode b_G_holdsAt 12 = .ok (.iconst 0, 1) := by decide +kernel
theorem d_G_holdsAt_13 : decode b_G_holdsAt 13 = .ok (.iload_n 3, 1) := by decide +kernel
theorem d_G_holdsAt_14 : decode b_G_holdsAt 14 = .ok (.iconst 2, 1) := by decide +kernel
theorem d_G_holdsAt_15 : decode b_G_holdsAt 15 = .ok (.aload_n 0, 1) := by decide +kernel
theorem d_G_holdsAt_16 : decode b_G_holdsAt 16 = .ok (.getfield 34, 3) := by decide +kernel
theorem d_G_holdsAt_19 : decode b_G_holdsAt 19 = .ok (.getfield 55, 3) := by decide +kernel
theorem d_G_holdsAt_22 : decode b_G_holdsAt 22 = .ok (.imul, 1) := by decide +kernel
theorem d_G_holdsAt_23 : decode b_G_holdsAt 23 = .ok (.isub, 1) := by decide +kernel
theorem d_G_holdsAt_24 : decode b_G_holdsAt 24 = .ok (.invokestatic 58, 3) := by decide +kernel
theorem d_G_holdsAt_27 : decode b_G_holdsAt 27 = .ok (.istore 4, 2) := by decide +kernel
theorem d_G_holdsAt_29 : decode b_G_holdsAt 29 = .ok (.aload_n 0, 1) := by decide +kernel
theorem d_G_holdsAt_30 : decode b_G_holdsAt 30 = .ok (.getfield 31, 3) := by decide +kernel
theorem d_G_holdsAt_33 : decode b_G_holdsAt 33 = .ok (.iload_n 1, 1) := by decide +kernel
theorem d_G_holdsAt_34 : decode b_G_holdsAt 34 = .ok (.invokestatic 63, 3) := by decide +kernel
theorem d_G_holdsAt_37 : decode b_G_holdsAt 37 = .ok (.ifCond .eq 7, 3) := by decide +kernel
theorem d_G_holdsAt_40 : decode b_G_holdsAt 40 = .ok (.iconst 1, 1) := by decide +kernel
theorem d_G_holdsAt_41 : decode b_G_holdsAt 41 = .ok (.goto 12, 3) := by decide +kernel
theorem d_G_holdsAt_44 : decode b_G_holdsAt 44 = .ok (.aload_n 0, 1) := by decide +kernel
theorem d_G_holdsAt_45 : decode b_G_holdsAt 45 = .ok (.getfield 34, 3) := by decide +kernel
theorem d_G_holdsAt_48 : decode b_G_holdsAt 48 = .ok (.getfield 67, 3) := by decide +kernel
theorem d_G_holdsAt_51 : decode b_G_holdsAt 51 = .ok (.iload_n 1, 1) := by decide +kernel
theorem d_G_holdsAt_52 : decode b_G_holdsAt 52 = .ok (.iaload, 1) := by decide +kernel
theorem d_G_holdsAt_53 : decode b_G_holdsAt 53 = .ok (.tableswitch 70 1 5 #[35, 41, 46, 49, 56], 35) := by decide +kernel
theorem d_G_holdsAt_88 : decode b_G_holdsAt 88 = .ok (.iload_n 3, 1) := by decide +kernel
theorem d_G_holdsAt_89 : decode b_G_holdsAt 89 = .ok (.iload_n 3, 1) := by decide +kernel
theorem d_G_holdsAt_90 : decode b_G_holdsAt 90 = .ok (.iconst 2, 1) := by decide +kernel
theorem d_G_holdsAt_91 : decode b_G_holdsAt 91 = .ok (.idiv, 1) := by decide +kernel
theorem d_G_holdsAt_92 : decode b_G_holdsAt 92 = .ok (.iadd, 1) := by decide +kernel
theorem d_G_holdsAt_93 : decode b_G_holdsAt 93 = .ok (.ireturn, 1) := by decide +kernel
theorem d_G_holdsAt_94 : decode b_G_holdsAt 94 = .ok (.iload_n 3, 1) := by decide +kernel
theorem d_G_holdsAt_95 : decode b_G_holdsAt 95 = .ok (.bipush 10, 2) := by decide +kernel
theorem d_G_holdsAt_97 : decode b_G_holdsAt 97 = .ok (.iadd, 1) := by decide +kernel
theorem d_G_holdsAt_98 : decode b_G_holdsAt 98 = .ok (.ireturn, 1) := by decide +kernel
theorem d_G_holdsAt_99 : decode b_G_holdsAt 99 = .ok (.iload 4, 2) := by decide +kernel
theorem d_G_holdsAt_101 : decode b_G_holdsAt 101 = .ok (.ireturn, 1) := by decide +kernel
theorem d_G_holdsAt_102 : decode b_G_holdsAt 102 = .ok (.iload 4, 2) := by decide +kernel
theorem d_G_holdsAt_104 : decode b_G_holdsAt 104 = .ok (.iconst 1, 1) := by decide +kernel
theorem d_G_holdsAt_105 : decode b_G_holdsAt 105 = .ok (.iadd, 1) := by decide +kernel
theorem d_G_holdsAt_106 : decode b_G_holdsAt 106 = .ok (.iconst 2, 1) := by decide +kernel
theorem d_G_holdsAt_107 : decode b_G_holdsAt 107 = .ok (.idiv, 1) := by decide +kernel
theorem d_G_holdsAt_108 : decode b_G_holdsAt 108 = .ok (.ireturn, 1) := by decide +kernel
theorem d_G_holdsAt_109 : decode b_G_holdsAt 109 = .ok (.iload_n 3, 1) := by decide +kernel
theorem d_G_holdsAt_110 : decode b_G_holdsAt 110 = .ok (.iload_n 3, 1) := by decide +kernel
theorem d_G_holdsAt_111 : decode b_G_holdsAt 111 = .ok (.iconst 2, 1) := by decide +kernel
theorem d_G_holdsAt_112 : decode b_G_holdsAt 112 = .ok (.idiv, 1) := by decide +kernel
theorem d_G_holdsAt_113 : decode b_G_holdsAt 113 = .ok (.iadd, 1) := by decide +kernel
theorem d_G_holdsAt_114 : decode b_G_holdsAt 114 = .ok (.iconst 3, 1) := by decide +kernel
theorem d_G_holdsAt_115 : decode b_G_holdsAt 115 = .ok (.aload_n 0, 1) := by decide +kernel
theorem d_G_holdsAt_116 : decode b_G_holdsAt 116 = .ok (.iload_n 1, 1) := by decide +kernel
theorem d_G_holdsAt_117 : decode b_G_holdsAt 117 = .ok (.invokevirtual 70, 3) := by decide +kernel
theorem d_G_holdsAt_120 : decode b_G_holdsAt 120 = .ok (.imul, 1) := by decide +kernel
theorem d_G_holdsAt_121 : decode b_G_holdsAt 121 = .ok (.iadd, 1) := by decide +kernel
theorem d_G_holdsAt_122 : decode b_G_holdsAt 122 = .ok (.ireturn, 1) := by decide +kernel
theorem d_G_holdsAt_123 : decode b_G_holdsAt 123 = .ok (.iload_n 3, 1) := by decide +kernel
theorem d_G_holdsAt_124 : decode b_G_holdsAt 124 = .ok (.ireturn, 1) := by decide +kernel
theorem d_G_holds_0 : decode b_G_holds 0 = .ok (.aload_n 0, 1) := by decide +kernel
theorem d_G_holds_1 : decode b_G_holds 1 = .ok (.iload_n 1, 1) := by decide +kernel
theorem d_G_holds_2 : decode b_G_holds 2 = .ok (.aload_n 0, 1) := by decide +kernel
theorem d_G_holds_3 : decode b_G_holds 3 = .ok (.getfield 34, 3) := by decide +kernel
theorem d_G_holds_6 : decode b_G_holds 6 = .ok (.getfield 45, 3) := by decide +kernel
theorem d_G_holds_9 : decode b_G_holds 9 = .ok (.iload_n 1, 1) := by decide +kernel
theorem d_G_holds_10 : decode b_G_holds 10 = .ok (.iaload, 1) := by decide +kernel
theorem d_G_holds_11 : decode b_G_holds 11 = .ok (.invokevirtual 48, 3) := by decide +kernel
theorem d_G_holds_14 : decode b_G_holds 14 = .ok (.ireturn, 1) := by decide +kernel
theorem d_G_nextToGo_0 : decode b_G_nextToGo 0 = .ok (.iconst (-1), 1) := by decide +kernel
theorem d_G_nextToGo_1 : decode b_G_nextToGo 1 = .ok (.istore_n 1, 1) := by decide +kernel
theorem d_G_nextToGo_2 : decode b_G_nextToGo 2 = .ok (.iconst 0, 1) := by decide +kernel
theorem d_G_nextToGo_3 : decode b_G_nextToGo 3 = .ok (.istore_n 2, 1) := by decide +kernel
theorem d_G_nextToGo_4 : decode b_G_nextToGo 4 = .ok (.iconst 0, 1) := by decide +kernel
theorem d_G_nextToGo_5 : decode b_G_nextToGo 5 = .ok (.istore_n 3, 1) := by decide +kernel
theorem d_G_nextToGo_6 : decode b_G_nextToGo 6 = .ok (.iload_n 3, 1) := by decide +kernel
theorem d_G_nextToGo_7 : decode b_G_nextToGo 7 = .ok (.aload_n 0, 1) := by decide +kernel
theorem d_G_nextToGo_8 : decode b_G_nextToGo 8 = .ok (.getfield 34, 3) := by decide +kernel
theorem d_G_nextToGo_11 : decode b_G_nextToGo 11 = .ok (.getfield 42, 3) := by decide +kernel
theorem d_G_nextToGo_14 : decode b_G_nextToGo 14 = .ok (.if_icmp .ge 49, 3) := by decide +kernel
theorem d_G_nextToGo_17 : decode b_G_nextToGo 17 = .ok (.aload_n 0, 1) := by decide +kernel
theorem d_G_nextToGo_18 : decode b_G_nextToGo 18 = .ok (.getfield 22, 3) := by decide +kernel
theorem d_G_nextToGo_21 : decode b_G_nextToGo 21 = .ok (.iload_n 3, 1) := by decide +kernel
theorem d_G_nextToGo_22 : decode b_G_nextToGo 22 = .ok (.invokestatic 63, 3) := by decide +kernel
theorem d_G_nextToGo_25 : decode b_G_nextToGo 25 = .ok (.ifCond .eq 18, 3) := by decide +kernel
theorem d_G_nextToGo_28 : decode b_G_nextToGo 28 = .ok (.aload_n 0, 1) := by decide +kernel
theorem d_G_nextToGo_29 : decode b_G_nextToGo 29 = .ok (.getfield 9, 3) := by decide +kernel
theorem d_G_nextToGo_32 : decode b_G_nextToGo 32 = .ok (.iload_n 3, 1) := by decide +kernel
theorem d_G_nextToGo_33 : decode b_G_nextToGo 33 = .ok (.iaload, 1) := by decide +kernel
theorem d_G_nextToGo_34 : decode b_G_nextToGo 34 = .ok (.aload_n 0, 1) := by decide +kernel
theorem d_G_nextToGo_35 : decode b_G_nextToGo 35 = .ok (.iload_n 3, 1) := by decide +kernel
theorem d_G_nextToGo_36 : decode b_G_nextToGo 36 = .ok (.invokevirtual 99, 3) := by decide +kernel
theorem d_G_nextToGo_39 : decode b_G_nextToGo 39 = .ok (.isub, 1) := by decide +kernel
theorem d_G_nextToGo_40 : decode b_G_nextToGo 40 = .ok (.goto 4, 3) := by decide +kernel
theorem d_G_nextToGo_43 : decode b_G_nextToGo 43 = .ok (.iconst 0, 1) := by decide +kernel
theorem d_G_nextToGo_44 : decode b_G_nextToGo 44 = .ok (.istore 4, 2) := by decide +kernel
theorem d_G_nextToGo_46 : decode b_G_nextToGo 46 = .ok (.iload 4, 2) := by decide +kernel
theorem d_G_nextToGo_48 : decode b_G_nextToGo 48 = .ok (.iload_n 2, 1) := by decide +kernel
theorem d_G_nextToGo_49 : decode b_G_nextToGo 49 = .ok (.if_icmp .le 8, 3) := by decide +kernel
theorem d_G_nextToGo_52 : decode b_G_nextToGo 52 = .ok (.iload_n 3, 1) := by decide +kernel
theorem d_G_nextToGo_53 : decode b_G_nextToGo 53 = .ok (.istore_n 1, 1) := by decide +kernel
theorem d_G_nextToGo_54 : decode b_G_nextToGo 54 = .ok (.iload 4, 2) := by decide +kernel
theorem d_G_nextToGo_56 : decode b_G_nextToGo 56 = .ok (.istore_n 2, 1) := by decide +kernel
theorem d_G_nextToGo_57 : decode b_G_nextToGo 57 = .ok (.iinc 3 1, 3) := by decide +kernel
theorem d_G_nextToGo_60 : decode b_G_nextToGo 60 = .ok (.goto (-54), 3) := by decide +kernel
theorem d_G_nextToGo_63 : decode b_G_nextToGo 63 = .ok (.iload_n 1, 1) := by decide +kernel
theorem d_G_nextToGo_64 : decode b_G_nextToGo 64 = .ok (.ireturn, 1) := by decide +kernel
theorem d_G_standingBehind_0 : decode b_G_standingBehind 0 = .ok (.aload_n 0, 1) := by decide +kernel
theorem d_G_standingBehind_1 : decode b_G_standingBehind 1 = .ok (.iload_n 1, 1) := by decide +kernel
theorem d_G_standingBehind_2 : decode b_G_standingBehind 2 = .ok (.invokevirtual 77, 3) := by decide +kernel
theorem d_G_standingBehind_5 : decode b_G_standingBehind 5 = .ok (.istore_n 2, 1) := by decide +kernel
theorem d_G_standingBehind_6 : decode b_G_standingBehind 6 = .ok (.iconst 0, 1) := by decide +kernel
theorem d_G_standingBehind_7 : decode b_G_standingBehind 7 = .ok (.istore_n 3, 1) := by decide +kernel
theorem d_G_standingBehind_8 : decode b_G_standingBehind 8 = .ok (.iload_n 3, 1) := by decide +kernel
theorem d_G_standingBehind_9 : decode b_G_standingBehind 9 = .ok (.aload_n 0, 1) := by decide +kernel
theorem d_G_standingBehind_10 : decode b_G_standingBehind 10 = .ok (.getfield 34, 3) := by decide +kernel
theorem d_G_standingBehind_13 : decode b_G_standingBehind 13 = .ok (.getfield 42, 3) := by decide +kernel
theorem d_G_standingBehind_16 : decode b_G_standingBehind 16 = .ok (.if_icmp .ge 26, 3) := by decide +kernel
theorem d_G_standingBehind_19 : decode b_G_standingBehind 19 = .ok (.aload_n 0, 1) := by decide +kernel
theorem d_G_standingBehind_20 : decode b_G_standingBehind 20 = .ok (.getfield 22, 3) := by decide +kernel
theorem d_G_standingBehind_23 : decode b_G_standingBehind 23 = .ok (.iload_n 2, 1) := by decide +kernel
theorem d_G_standingBehind_24 : decode b_G_standingBehind 24 = .ok (.invokestatic 63, 3) := by decide +kernel
theorem d_G_standingBehind_27 : decode b_G_standingBehind 27 = .ok (.ifCond .ne 15, 3) := by decide +kernel
theorem d_G_standingBehind_30 : decode b_G_standingBehind 30 = .ok (.aload_n 0, 1) := by decide +kernel
theorem d_G_standingBehind_31 : decode b_G_standingBehind 31 = .ok (.iload_n 2, 1) := by decide +kernel
theorem d_G_standingBehind_32 : decode b_G_standingBehind 32 = .ok (.invokevirtual 77, 3) := by decide +kernel
theorem d_G_standingBehind_35 : decode b_G_standingBehind 35 = .ok (.istore_n 2, 1) := by decide +kernel
theorem d_G_standingBehind_36 : decode b_G_standingBehind 36 = .ok (.iinc 3 1, 3) := by decide +kernel
theorem d_G_standingBehind_39 : decode b_G_standingBehind 39 = .ok (.goto (-31), 3) := by decide +kernel
theorem d_G_standingBehind_42 : decode b_G_standingBehind 42 = .ok (.iload_n 2, 1) := by decide +kernel
theorem d_G_standingBehind_43 : decode b_G_standingBehind 43 = .ok (.ireturn, 1) := by decide +kernel
theorem d_G_standingAheadOf_0 : decode b_G_standingAheadOf 0 = .ok (.aload_n 0, 1) := by decide +kernel
theorem d_G_standingAheadOf_1 : decode b_G_standingAheadOf 1 = .ok (.iload_n 1, 1) := by decide +kernel
theorem d_G_standingAheadOf_2 : decode b_G_standingAheadOf 2 = .ok (.invokevirtual 74, 3) := by decide +kernel
theorem d_G_standingAheadOf_5 : decode b_G_standingAheadOf 5 = .ok (.istore_n 2, 1) := by decide +kernel
theorem d_G_standingAheadOf_6 : decode b_G_standingAheadOf 6 = .ok (.iconst 0, 1) := by decide +kernel
theorem d_G_standingAheadOf_7 : decode b_G_standingAheadOf 7 = .ok (.istore_n 3, 1) := by decide +kernel
theorem d_G_standingAheadOf_8 : decode b_G_standingAheadOf 8 = .ok (.iload_n 3, 1) := by decide +kernel
theorem d_G_standingAheadOf_9 : decode b_G_standingAheadOf 9 = .ok (.aload_n 0, 1) := by decide +kernel
theorem d_G_standingAheadOf_10 : decode b_G_standingAheadOf 10 = .ok (.getfield 34, 3) := by decide +kernel
theorem d_G_standingAheadOf_13 : decode b_G_standingAheadOf 13 = .ok (.getfield 42, 3) := by decide +kernel
theorem d_G_standingAheadOf_16 : decode b_G_standingAheadOf 16 = .ok (.if_icmp .ge 26, 3) := by decide +kernel
theorem d_G_standingAheadOf_19 : decode b_G_standingAheadOf 19 = .ok (.aload_n 0, 1) := by decide +kernel
theorem d_G_standingAheadOf_20 : decode b_G_standingAheadOf 20 = .ok (.getfield 22, 3) := by decide +kernel
theorem d_G_standingAheadOf_23 : decode b_G_standingAheadOf 23 = .ok (.iload_n 2, 1) := by decide +kernel
theorem d_G_standingAheadOf_24 : decode b_G_standingAheadOf 24 = .ok (.invokestatic 63, 3) := by decide +kernel
theorem d_G_standingAheadOf_27 : decode b_G_standingAheadOf 27 = .ok (.ifCond .ne 15, 3) := by decide +kernel
theorem d_G_standingAheadOf_30 : decode b_G_standingAheadOf 30 = .ok (.aload_n 0, 1) := by decide +kernel
theorem d_G_standingAheadOf_31 : decode b_G_standingAheadOf 31 = .ok (.iload_n 2, 1) := by decide +kernel
theorem d_G_standingAheadOf_32 : decode b_G_standingAheadOf 32 = .ok (.invokevirtual 74, 3) := by decide +kernel
theorem d_G_standingAheadOf_35 : decode b_G_standingAheadOf 35 = .ok (.istore_n 2, 1) := by decide +kernel
theorem d_G_standingAheadOf_36 : decode b_G_standingAheadOf 36 = .ok (.iinc 3 1, 3) := by decide +kernel
theorem d_G_standingAheadOf_39 : decode b_G_standingAheadOf 39 = .ok (.goto (-31), 3) := by decide +kernel
theorem d_G_standingAheadOf_42 : decode b_G_standingAheadOf 42 = .ok (.iload_n 2, 1) := by decide +kernel
theorem d_G_standingAheadOf_43 : decode b_G_standingAheadOf 43 = .ok (.ireturn, 1) := by decide +kernel
theorem d_G_handOn_0 : decode b_G_handOn 0 = .ok (.aload_n 0, 1) := by decide +kernel
theorem d_G_handOn_1 : decode b_G_handOn 1 = .ok (.getfield 22, 3) := by decide +kernel
theorem d_G_handOn_4 : decode b_G_handOn 4 = .ok (.ifCond .ne 4, 3) := by decide +kernel
theorem d_G_handOn_7 : decode b_G_handOn 7 = .ok (.return_, 1) := by decide +kernel
theorem d_G_handOn_8 : decode b_G_handOn 8 = .ok (.aload_n 0, 1) := by decide +kernel
theorem d_G_handOn_9 : decode b_G_handOn 9 = .ok (.getfield 9, 3) := by decide +kernel
theorem d_G_handOn_12 : decode b_G_handOn 12 = .ok (.iload_n 1, 1) := by decide +kernel
theorem d_G_handOn_13 : decode b_G_handOn 13 = .ok (.iaload, 1) := by decide +kernel
theorem d_G_handOn_14 : decode b_G_handOn 14 = .ok (.iconst 1, 1) := by decide +kernel
theorem d_G_handOn_15 : decode b_G_handOn 15 = .ok (.iadd, 1) := by decide +kernel
theorem d_G_handOn_16 : decode b_G_handOn 16 = .ok (.iconst 2, 1) := by decide +kernel
theorem d_G_handOn_17 : decode b_G_handOn 17 = .ok (.idiv, 1) := by decide +kernel
theorem d_G_handOn_18 : decode b_G_handOn 18 = .ok (.istore_n 2, 1) := by decide +kernel
theorem d_G_handOn_19 : decode b_G_handOn 19 = .ok (.aload_n 0, 1) := by decide +kernel
theorem d_G_handOn_20 : decode b_G_handOn 20 = .ok (.getfield 9, 3) := by decide +kernel
theorem d_G_handOn_23 : decode b_G_handOn 23 = .ok (.aload_n 0, 1) := by decide +kernel
theorem d_G_handOn_24 : decode b_G_handOn 24 = .ok (.iload_n 1, 1) := by decide +kernel
theorem d_G_handOn_25 : decode b_G_handOn 25 = .ok (.invokevirtual 114, 3) := by decide +kernel
theorem d_G_handOn_28 : decode b_G_handOn 28 = .ok (.dup2, 1) := by decide +kernel
theorem d_G_handOn_29 : decode b_G_handOn 29 = .ok (.iaload, 1) := by decide +kernel
theorem d_G_handOn_30 : decode b_G_handOn 30 = .ok (.iload_n 2, 1) := by decide +kernel
theorem d_G_handOn_31 : decode b_G_handOn 31 = .ok (.iadd, 1) := by decide +kernel
theorem d_G_handOn_32 : decode b_G_handOn 32 = .ok (.iastore, 1) := by decide +kernel
theorem d_G_handOn_33 : decode b_G_handOn 33 = .ok (.aload_n 0, 1) := by decide +kernel
theorem d_G_handOn_34 : decode b_G_handOn 34 = .ok (.getfield 9, 3) := by decide +kernel
theorem d_G_handOn_37 : decode b_G_handOn 37 = .ok (.aload_n 0, 1) := by decide +kernel
theorem d_G_handOn_38 : decode b_G_handOn 38 = .ok (.iload_n 1, 1) := by decide +kernel
theorem d_G_handOn_39 : decode b_G_handOn 39 = .ok (.invokevirtual 117, 3) := by decide +kernel
theorem d_G_handOn_42 : decode b_G_handOn 42 = .ok (.dup2, 1) := by decide +kernel
theorem d_G_handOn_43 : decode b_G_handOn 43 = .ok (.iaload, 1) := by decide +kernel
theorem d_G_handOn_44 : decode b_G_handOn 44 = .ok (.aload_n 0, 1) := by decide +kernel
theorem d_G_handOn_45 : decode b_G_handOn 45 = .ok (.getfield 9, 3) := by decide +kernel
theorem d_G_handOn_48 : decode b_G_handOn 48 = .ok (.iload_n 1, 1) := by decide +kernel
theorem d_G_handOn_49 : decode b_G_handOn 49 = .ok (.iaload, 1) := by decide +kernel
theorem d_G_handOn_50 : decode b_G_handOn 50 = .ok (.iload_n 2, 1) := by decide +kernel
theorem d_G_handOn_51 : decode b_G_handOn 51 = .ok (.isub, 1) := by decide +kernel
theorem d_G_handOn_52 : decode b_G_handOn 52 = .ok (.iadd, 1) := by decide +kernel
theorem d_G_handOn_53 : decode b_G_handOn 53 = .ok (.iastore, 1) := by decide +kernel
theorem d_G_handOn_54 : decode b_G_handOn 54 = .ok (.return_, 1) := by decide +kernel
theorem d_G_blow_0 : decode b_G_blow 0 = .ok (.aload_n 0, 1) := by decide +kernel
theorem d_G_blow_1 : decode b_G_blow 1 = .ok (.iconst 0, 1) := by decide +kernel
theorem d_G_blow_2 : decode b_G_blow 2 = .ok (.putfield 18, 3) := by decide +kernel
theorem d_G_blow_5 : decode b_G_blow 5 = .ok (.iconst 0, 1) := by decide +kernel
theorem d_G_blow_6 : decode b_G_blow 6 = .ok (.istore_n 3, 1) := by decide +kernel
theorem d_G_blow_7 : decode b_G_blow 7 = .ok (.iload_n 3, 1) := by decide +kernel
theorem d_G_blow_8 : decode b_G_blow 8 = .ok (.aload_n 0, 1) := by decide +kernel
theorem d_G_blow_9 : decode b_G_blow 9 = .ok (.getfield 34, 3) := by decide +kernel
theorem d_G_blow_12 : decode b_G_blow 12 = .ok (.getfield 42, 3) := by decide +kernel
theorem d_G_blow_15 : decode b_G_blow 15 = .ok (.if_icmp .ge 22, 3) := by decide +kernel
theorem d_G_blow_18 : decode b_G_blow 18 = .ok (.aload_n 0, 1) := by decide +kernel
theorem d_G_blow_19 : decode b_G_blow 19 = .ok (.getfield 9, 3) := by decide +kernel
theorem d_G_blow_22 : decode b_G_blow 22 = .ok (.iload_n 3, 1) := by decide +kernel
theorem d_G_blow_23 : decode b_G_blow 23 = .ok (.aload_n 0, 1) := by decide +kernel
theorem d_G_blow_24 : decode b_G_blow 24 = .ok (.iload_n 3, 1) := by decide +kernel
theorem d_G_blow_25 : decode b_G_blow 25 = .ok (.iload_n 1, 1) := by decide +kernel
theorem d_G_blow_26 : decode b_G_blow 26 = .ok (.iload_n 2, 1) := by decide +kernel
theorem d_G_blow_27 : decode b_G_blow 27 = .ok (.invokevirtual 95, 3) := by decide +kernel
theorem d_G_blow_30 : decode b_G_blow 30 = .ok (.iastore, 1) := by decide +kernel
theorem d_G_blow_31 : decode b_G_blow 31 = .ok (.iinc 3 1, 3) := by decide +kernel
theorem d_G_blow_34 : decode b_G_blow 34 = .ok (.goto (-27), 3) := by decide +kernel
theorem d_G_blow_37 : decode b_G_blow 37 = .ok (.iconst 0, 1) := by decide +kernel
theorem d_G_blow_38 : decode b_G_blow 38 = .ok (.istore_n 3, 1) := by decide +kernel
theorem d_G_blow_39 : decode b_G_blow 39 = .ok (.iload_n 3, 1) := by decide +kernel
theorem d_G_blow_40 : decode b_G_blow 40 = .ok (.aload_n 0, 1) := by decide +kernel
theorem d_G_blow_41 : decode b_G_blow 41 = .ok (.getfield 34, 3) := by decide +kernel
theorem d_G_blow_44 : decode b_G_blow 44 = .ok (.getfield 42, 3) := by decide +kernel
theorem d_G_blow_47 : decode b_G_blow 47 = .ok (.if_icmp .ge 63, 3) := by decide +kernel
theorem d_G_blow_50 : decode b_G_blow 50 = .ok (.aload_n 0, 1) := by decide +kernel
theorem d_G_blow_51 : decode b_G_blow 51 = .ok (.invokevirtual 102, 3) := by decide +kernel
theorem d_G_blow_54 : decode b_G_blow 54 = .ok (.istore 4, 2) := by decide +kernel
theorem d_G_blow_56 : decode b_G_blow 56 = .ok (.iload 4, 2) := by decide +kernel
theorem d_G_blow_58 : decode b_G_blow 58 = .ok (.iconst (-1), 1) := by decide +kernel
theorem d_G_blow_59 : decode b_G_blow 59 = .ok (.if_icmp .ne 4, 3) := by decide +kernel
theorem d_G_blow_62 : decode b_G_blow 62 = .ok (.return_, 1) := by decide +kernel
theorem d_G_blow_63 : decode b_G_blow 63 = .ok (.aload_n 0, 1) := by decide +kernel
theorem d_G_blow_64 : decode b_G_blow 64 = .ok (.aload_n 0, 1) := by decide +kernel
theorem d_G_blow_65 : decode b_G_blow 65 = .ok (.getfield 22, 3) := by decide +kernel
theorem d_G_blow_68 : decode b_G_blow 68 = .ok (.iload 4, 2) := by decide +kernel
theorem d_G_blow_70 : decode b_G_blow 70 = .ok (.iconst 0, 1) := by decide +kernel
theorem d_G_blow_71 : decode b_G_blow 71 = .ok (.invokestatic 106, 3) := by decide +kernel
theorem d_G_blow_74 : decode b_G_blow 74 = .ok (.putfield 22, 3) := by decide +kernel
theorem d_G_blow_77 : decode b_G_blow 77 = .ok (.aload_n 0, 1) := by decide +kernel
theorem d_G_blow_78 : decode b_G_blow 78 = .ok (.getfield 15, 3) := by decide +kernel
theorem d_G_blow_81 : decode b_G_blow 81 = .ok (.aload_n 0, 1) := by decide +kernel
theorem d_G_blow_82 : decode b_G_blow 82 = .ok (.getfield 18, 3) := by decide +kernel
theorem d_G_blow_85 : decode b_G_blow 85 = .ok (.iload 4, 2) := by decide +kernel
theorem d_G_blow_87 : decode b_G_blow 87 = .ok (.iastore, 1) := by decide +kernel
theorem d_G_blow_88 : decode b_G_blow 88 = .ok (.aload_n 0, 1) := by decide +kernel
theorem d_G_blow_89 : decode b_G_blow 89 = .ok (.dup, 1) := by decide +kernel
theorem d_G_blow_90 : decode b_G_blow 90 = .ok (.getfield 18, 3) := by decide +kernel
theorem d_G_blow_93 : decode b_G_blow 93 = .ok (.iconst 1, 1) := by decide +kernel
theorem d_G_blow_94 : decode b_G_blow 94 = .ok (.iadd, 1) := by decide +kernel
theorem d_G_blow_95 : decode b_G_blow 95 = .ok (.putfield 18, 3) := by decide +kernel
theorem d_G_blow_98 : decode b_G_blow 98 = .ok (.aload_n 0, 1) := by decide +kernel
theorem d_G_blow_99 : decode b_G_blow 99 = .ok (.iload 4, 2) := by decide +kernel
theorem d_G_blow_101 : decode b_G_blow 101 = .ok (.invokevirtual 110, 3) := by decide +kernel
theorem d_G_blow_104 : decode b_G_blow 104 = .ok (.iinc 3 1, 3) := by decide +kernel
theorem d_G_blow_107 : decode b_G_blow 107 = .ok (.goto (-68), 3) := by decide +kernel
theorem d_G_blow_110 : decode b_G_blow 110 = .ok (.return_, 1) := by decide +kernel
theorem d_T_gust_0 : decode b_T_gust 0 = .ok (.iload_n 1, 1) := by decide +kernel
theorem d_T_gust_1 : decode b_T_gust 1 = .ok (.iload_n 2, 1) := by decide +kernel
theorem d_T_gust_2 : decode b_T_gust 2 = .ok (.invokestatic 153, 3) := by decide +kernel
theorem d_T_gust_5 : decode b_T_gust 5 = .ok (.ifCond .ne 10, 3) := by decide +kernel
theorem d_T_gust_8 : decode b_T_gust 8 = .ok (.aload_n 0, 1) := by decide +kernel
theorem d_T_gust_9 : decode b_T_gust 9 = .ok (.bipush (-2), 2) := by decide +kernel
theorem d_T_gust_11 : decode b_T_gust 11 = .ok (.invokevirtual 78, 3) := by decide +kernel
theorem d_T_gust_14 : decode b_T_gust 14 = .ok (.ireturn, 1) := by decide +kernel
theorem d_T_gust_15 : decode b_T_gust 15 = .ok (.aload_n 0, 1) := by decide +kernel
theorem d_T_gust_16 : decode b_T_gust 16 = .ok (.getfield 10, 3) := by decide +kernel
theorem d_T_gust_19 : decode b_T_gust 19 = .ok (.getfield 156, 3) := by decide +kernel
theorem d_T_gust_22 : decode b_T_gust 22 = .ok (.invokestatic 159, 3) := by decide +kernel
theorem d_T_gust_25 : decode b_T_gust 25 = .ok (.ifCond .eq 8, 3) := by decide +kernel
theorem d_T_gust_28 : decode b_T_gust 28 = .ok (.aload_n 0, 1) := by decide +kernel
theorem d_T_gust_29 : decode b_T_gust 29 = .ok (.invokevirtual 113, 3) := by decide +kernel
theorem d_T_gust_32 : decode b_T_gust 32 = .ok (.ireturn, 1) := by decide +kernel
theorem d_T_gust_33 : decode b_T_gust 33 = .ok (.aload_n 0, 1) := by decide +kernel
theorem d_T_gust_34 : decode b_T_gust 34 = .ok (.getfield 10, 3) := by decide +kernel
theorem d_T_gust_37 : decode b_T_gust 37 = .ok (.invokevirtual 162, 3) := by decide +kernel
theorem d_T_gust_40 : decode b_T_gust 40 = .ok (.aload_n 0, 1) := by decide +kernel
theorem d_T_gust_41 : decode b_T_gust 41 = .ok (.invokevirtual 165, 3) := by decide +kernel
theorem d_T_gust_44 : decode b_T_gust 44 = .ok (.iload_n 1, 1) := by decide +kernel
theorem d_T_gust_45 : decode b_T_gust 45 = .ok (.iload_n 2, 1) := by decide +kernel
theorem d_T_gust_46 : decode b_T_gust 46 = .ok (.invokevirtual 169, 3) := by decide +kernel
theorem d_T_gust_49 : decode b_T_gust 49 = .ok (.aload_n 0, 1) := by decide +kernel
theorem d_T_gust_50 : decode b_T_gust 50 = .ok (.getfield 10, 3) := by decide +kernel
theorem d_T_gust_53 : decode b_T_gust 53 = .ok (.aload_n 0, 1) := by decide +kernel
theorem d_T_gust_54 : decode b_T_gust 54 = .ok (.getfield 21, 3) := by decide +kernel
theorem d_T_gust_57 : decode b_T_gust 57 = .ok (.getfield 173, 3) := by decide +kernel
theorem d_T_gust_60 : decode b_T_gust 60 = .ok (.putfield 156, 3) := by decide +kernel
theorem d_T_gust_63 : decode b_T_gust 63 = .ok (.aload_n 0, 1) := by decide +kernel
theorem d_T_gust_64 : decode b_T_gust 64 = .ok (.getfield 21, 3) := by decide +kernel
theorem d_T_gust_67 : decode b_T_gust 67 = .ok (.getfield 174, 3) := by decide +kernel
theorem d_T_gust_70 : decode b_T_gust 70 = .ok (.ireturn, 1) := by decide +kernel
theorem d_T_stand_0 : decode b_T_stand 0 = .ok (.aload_n 0, 1) := by decide +kernel
theorem d_T_stand_1 : decode b_T_stand 1 = .ok (.getfield 10, 3) := by decide +kernel
theorem d_T_stand_4 : decode b_T_stand 4 = .ok (.iload_n 1, 1) := by decide +kernel
theorem d_T_stand_5 : decode b_T_stand 5 = .ok (.invokevirtual 177, 3) := by decide +kernel
theorem d_T_stand_8 : decode b_T_stand 8 = .ok (.ifCond .ne 10, 3) := by decide +kernel
theorem d_T_stand_11 : decode b_T_stand 11 = .ok (.aload_n 0, 1) := by decide +kernel
theorem d_T_stand_12 : decode b_T_stand 12 = .ok (.bipush (-2), 2) := by decide +kernel
theorem d_T_stand_14 : decode b_T_stand 14 = .ok (.invokevirtual 78, 3) := by decide +kernel
theorem d_T_stand_17 : decode b_T_stand 17 = .ok (.ireturn, 1) := by decide +kernel
theorem d_T_stand_18 : decode b_T_stand 18 = .ok (.aload_n 0, 1) := by decide +kernel
theorem d_T_stand_19 : decode b_T_stand 19 = .ok (.getfield 10, 3) := by decide +kernel
theorem d_T_stand_22 : decode b_T_stand 22 = .ok (.getfield 156, 3) := by decide +kernel
theorem d_T_stand_25 : decode b_T_stand 25 = .ok (.iload_n 1, 1) := by decide +kernel
theorem d_T_stand_26 : decode b_T_stand 26 = .ok (.invokestatic 180, 3) := by decide +kernel
theorem d_T_stand_29 : decode b_T_stand 29 = .ok (.iload_n 2, 1) := by decide +kernel
theorem d_T_stand_30 : decode b_T_stand 30 = .ok (.if_icmp .ne 8, 3) := by decide +kernel
theorem d_T_stand_33 : decode b_T_stand 33 = .ok (.aload_n 0, 1) := by decide +kernel
theorem d_T_stand_34 : decode b_T_stand 34 = .ok (.invokevirtual 113, 3) := by decide +kernel
theorem d_T_stand_37 : decode b_T_stand 37 = .ok (.ireturn, 1) := by decide +kernel
theorem d_T_stand_38 : decode b_T_stand 38 = .ok (.aload_n 0, 1) := by decide +kernel
theorem d_T_stand_39 : decode b_T_stand 39 = .ok (.getfield 10, 3) := by decide +kernel
theorem d_T_stand_42 : decode b_T_stand 42 = .ok (.invokevirtual 162, 3) := by decide +kernel
theorem d_T_stand_45 : decode b_T_stand 45 = .ok (.aload_n 0, 1) := by decide +kernel
theorem d_T_stand_46 : decode b_T_stand 46 = .ok (.getfield 10, 3) := by decide +kernel
theorem d_T_stand_49 : decode b_T_stand 49 = .ok (.aload_n 0, 1) := by decide +kernel
theorem d_T_stand_50 : decode b_T_stand 50 = .ok (.getfield 10, 3) := by decide +kernel
theorem d_T_stand_53 : decode b_T_stand 53 = .ok (.getfield 156, 3) := by decide +kernel
theorem d_T_stand_56 : decode b_T_stand 56 = .ok (.iload_n 1, 1) := by decide +kernel
theorem d_T_stand_57 : decode b_T_stand 57 = .ok (.iload_n 2, 1) := by decide +kernel
theorem d_T_stand_58 : decode b_T_stand 58 = .ok (.invokestatic 183, 3) := by decide +kernel
theorem d_T_stand_61 : decode b_T_stand 61 = .ok (.putfield 156, 3) := by decide +kernel
theorem d_T_stand_64 : decode b_T_stand 64 = .ok (.iconst 1, 1) := by decide +kernel
theorem d_T_stand_65 : decode b_T_stand 65 = .ok (.ireturn, 1) := by decide +kernel
theorem d_F_goBack_0 : decode b_F_goBack 0 = .ok (.aload_n 0, 1) := by decide +kernel
theorem d_F_goBack_1 : decode b_F_goBack 1 = .ok (.getfield 48, 3) := by decide +kernel
theorem d_F_goBack_4 : decode b_F_goBack 4 = .ok (.ifCond .ne 5, 3) := by decide +kernel
theorem d_F_goBack_7 : decode b_F_goBack 7 = .ok (.iconst 0, 1) := by decide +kernel
theorem d_F_goBack_8 : decode b_F_goBack 8 = .ok (.ireturn, 1) := by decide +kernel
theorem d_F_goBack_9 : decode b_F_goBack 9 = .ok (.aload_n 0, 1) := by decide +kernel
theorem d_F_goBack_10 : decode b_F_goBack 10 = .ok (.dup, 1) := by decide +kernel
theorem d_F_goBack_11 : decode b_F_goBack 11 = .ok (.getfield 48, 3) := by decide +kernel
theorem d_F_goBack_14 : decode b_F_goBack 14 = .ok (.iconst 1, 1) := by decide +kernel
theorem d_F_goBack_15 : decode b_F_goBack 15 = .ok (.isub, 1) := by decide +kernel
theorem d_F_goBack_16 : decode b_F_goBack 16 = .ok (.putfield 48, 3) := by decide +kernel
theorem d_F_goBack_19 : decode b_F_goBack 19 = .ok (.aload_n 0, 1) := by decide +kernel
theorem d_F_goBack_20 : decode b_F_goBack 20 = .ok (.aload_n 0, 1) := by decide +kernel
theorem d_F_goBack_21 : decode b_F_goBack 21 = .ok (.getfield 24, 3) := by decide +kernel
theorem d_F_goBack_24 : decode b_F_goBack 24 = .ok (.aload_n 0, 1) := by decide +kernel
theorem d_F_goBack_25 : decode b_F_goBack 25 = .ok (.getfield 48, 3) := by decide +kernel
theorem d_F_goBack_28 : decode b_F_goBack 28 = .ok (.iaload, 1) := by decide +kernel
theorem d_F_goBack_29 : decode b_F_goBack 29 = .ok (.putfield 45, 3) := by decide +kernel
theorem d_F_goBack_32 : decode b_F_goBack 32 = .ok (.iconst 1, 1) := by decide +kernel
theorem d_F_goBack_33 : decode b_F_goBack 33 = .ok (.ireturn, 1) := by decide +kernel
theorem d_T_undo_0 : decode b_T_undo 0 = .ok (.aload_n 0, 1) := by decide +kernel
theorem d_T_undo_1 : decode b_T_undo 1 = .ok (.getfield 10, 3) := by decide +kernel
theorem d_T_undo_4 : decode b_T_undo 4 = .ok (.invokevirtual 187, 3) := by decide +kernel
theorem d_T_undo_7 : decode b_T_undo 7 = .ok (.ifCond .eq 7, 3) := by decide +kernel
theorem d_T_undo_10 : decode b_T_undo 10 = .ok (.iconst 1, 1) := by decide +kernel
theorem d_T_undo_11 : decode b_T_undo 11 = .ok (.goto 7, 3) := by decide +kernel
theorem d_T_undo_14 : decode b_T_undo 14 = .ok (.aload_n 0, 1) := by decide +kernel
theorem d_T_undo_15 : decode b_T_undo 15 = .ok (.invokevirtual 113, 3) := by decide +kernel
theorem d_T_undo_18 : decode b_T_undo 18 = .ok (.ireturn, 1) := by decide +kernel
theorem d_T_of_0 : decode b_T_of 0 = .ok (.aload_n 0, 1) := by decide +kernel
theorem d_T_of_1 : decode b_T_of 1 = .ok (.getfield 10, 3) := by decide +kernel
theorem d_T_of_4 : decode b_T_of 4 = .ok (.iload_n 1, 1) := by decide +kernel
theorem d_T_of_5 : decode b_T_of 5 = .ok (.invokevirtual 177, 3) := by decide +kernel
theorem d_T_of_8 : decode b_T_of 8 = .ok (.ifCond .ne 10, 3) := by decide +kernel
theorem d_T_of_11 : decode b_T_of 11 = .ok (.aload_n 0, 1) := by decide +kernel
theorem d_T_of_12 : decode b_T_of 12 = .ok (.bipush (-2), 2) := by decide +kernel
theorem d_T_of_14 : decode b_T_of 14 = .ok (.invokevirtual 78, 3) := by decide +kernel
theorem d_T_of_17 : decode b_T_of 17 = .ok (.ireturn, 1) := by decide +kernel
theorem d_T_of_18 : decode b_T_of 18 = .ok (.iload_n 2, 1) := by decide +kernel
theorem d_T_of_19 : decode b_T_of 19 = .ok (.tableswitch 105 0 5 #[37, 47, 57, 67, 76, 96], 37) := by decide +kernel
theorem d_T_of_56 : decode b_T_of 56 = .ok (.aload_n 0, 1) := by decide +kernel
theorem d_T_of_57 : decode b_T_of 57 = .ok (.getfield 10, 3) := by decide +kernel
theorem d_T_of_60 : decode b_T_of 60 = .ok (.getfield 93, 3) := by decide +kernel
theorem d_T_of_63 : decode b_T_of 63 = .ok (.iload_n 1, 1) := by decide +kernel
theorem d_T_of_64 : decode b_T_of 64 = .ok (.iaload, 1) := by decide +kernel
theorem d_T_of_65 : decode b_T_of 65 = .ok (.ireturn, 1) := by decide +kernel
theorem d_T_of_66 : decode b_T_of 66 = .ok (.aload_n 0, 1) := by decide +kernel
theorem d_T_of_67 : decode b_T_of 67 = .ok (.getfield 10, 3) := by decide +kernel
theorem d_T_of_70 : decode b_T_of 70 = .ok (.getfield 191, 3) := by decide +kernel
theorem d_T_of_73 : decode b_T_of 73 = .ok (.iload_n 1, 1) := by decide +kernel
theorem d_T_of_74 : decode b_T_of 74 = .ok (.iaload, 1) := by decide +kernel
theorem d_T_of_75 : decode b_T_of 75 = .ok (.ireturn, 1) := by decide +kernel
theorem d_T_of_76 : decode b_T_of 76 = .ok (.aload_n 0, 1) := by decide +kernel
theorem d_T_of_77 : decode b_T_of 77 = .ok (.getfield 10, 3) := by decide +kernel
theorem d_T_of_80 : decode b_T_of 80 = .ok (.getfield 194, 3) := by decide +kernel
theorem d_T_of_83 : decode b_T_of 83 = .ok (.iload_n 1, 1) := by decide +kernel
theorem d_T_of_84 : decode b_T_of 84 = .ok (.iaload, 1) := by decide +kernel
theorem d_T_of_85 : decode b_T_of 85 = .ok (.ireturn, 1) := by decide +kernel
theorem d_T_of_86 : decode b_T_of 86 = .ok (.aload_n 0, 1) := by decide +kernel
theorem d_T_of_87 : decode b_T_of 87 = .ok (.invokevirtual 165, 3) := by decide +kernel
theorem d_T_of_90 : decode b_T_of 90 = .ok (.iload_n 1, 1) := by decide +kernel
theorem d_T_of_91 : decode b_T_of 91 = .ok (.invokevirtual 197, 3) := by decide +kernel
theorem d_T_of_94 : decode b_T_of 94 = .ok (.ireturn, 1) := by decide +kernel
theorem d_T_of_95 : decode b_T_of 95 = .ok (.aload_n 0, 1) := by decide +kernel
theorem d_T_of_96 : decode b_T_of 96 = .ok (.getfield 10, 3) := by decide +kernel
theorem d_T_of_99 : decode b_T_of 99 = .ok (.getfield 156, 3) := by decide +kernel
theorem d_T_of_102 : decode b_T_of 102 = .ok (.iload_n 1, 1) := by decide +kernel
theorem d_T_of_103 : decode b_T_of 103 = .ok (.invokestatic 180, 3) := by decide +kernel
theorem d_T_of_106 : decode b_T_of 106 = .ok (.ifCond .eq 7, 3) := by decide +kernel
theorem d_T_of_109 : decode b_T_of 109 = .ok (.iconst 1, 1) := by decide +kernel
theorem d_T_of_110 : decode b_T_of 110 = .ok (.goto 4, 3) := by decide +kernel
theorem d_T_of_113 : decode b_T_of 113 = .ok (.iconst 0, 1) := by decide +kernel
theorem d_T_of_114 : decode b_T_of 114 = .ok (.ireturn, 1) := by decide +kernel
theorem d_T_of_115 : decode b_T_of 115 = .ok (.aload_n 0, 1) := by decide +kernel
theorem d_T_of_116 : decode b_T_of 116 = .ok (.invokevirtual 165, 3) := by decide +kernel
theorem d_T_of_119 : decode b_T_of 119 = .ok (.iload_n 1, 1) := by decide +kernel
theorem d_T_of_120 : decode b_T_of 120 = .ok (.invokevirtual 200, 3) := by decide +kernel
theorem d_T_of_123 : decode b_T_of 123 = .ok (.ireturn, 1) := by decide +kernel
theorem d_T_of_124 : decode b_T_of 124 = .ok (.aload_n 0, 1) := by decide +kernel
theorem d_T_of_125 : decode b_T_of 125 = .ok (.bipush (-2), 2) := by decide +kernel
theorem d_T_of_127 : decode b_T_of 127 = .ok (.invokevirtual 78, 3) := by decide +kernel
theorem d_T_of_130 : decode b_T_of 130 = .ok (.ireturn, 1) := by decide +kernel
theorem d_T_pull_0 : decode b_T_pull 0 = .ok (.aload_n 0, 1) := by decide +kernel
theorem d_T_pull_1 : decode b_T_pull 1 = .ok (.getfield 10, 3) := by decide +kernel
theorem d_T_pull_4 : decode b_T_pull 4 = .ok (.iload_n 1, 1) := by decide +kernel
theorem d_T_pull_5 : decode b_T_pull 5 = .ok (.invokevirtual 177, 3) := by decide +kernel
theorem d_T_pull_8 : decode b_T_pull 8 = .ok (.ifCond .eq 11, 3) := by decide +kernel
theorem d_T_pull_11 : decode b_T_pull 11 = .ok (.iload_n 2, 1) := by decide +kernel
theorem d_T_pull_12 : decode b_T_pull 12 = .ok (.iload_n 3, 1) := by decide +kernel
theorem d_T_pull_13 : decode b_T_pull 13 = .ok (.invokestatic 153, 3) := by decide +kernel
theorem d_T_pull_16 : decode b_T_pull 16 = .ok (.ifCond .ne 10, 3) := by decide +kernel
theorem d_T_pull_19 : decode b_T_pull 19 = .ok (.aload_n 0, 1) := by decide +kernel
theorem d_T_pull_20 : decode b_T_pull 20 = .ok (.bipush (-2), 2) := by decide +kernel
theorem d_T_pull_22 : decode b_T_pull 22 = .ok (.invokevirtual 78, 3) := by decide +kernel
theorem d_T_pull_25 : decode b_T_pull 25 = .ok (.ireturn, 1) := by decide +kernel
theorem d_T_pull_26 : decode b_T_pull 26 = .ok (.aload_n 0, 1) := by decide +kernel
theorem d_T_pull_27 : decode b_T_pull 27 = .ok (.invokevirtual 165, 3) := by decide +kernel
theorem d_T_pull_30 : decode b_T_pull 30 = .ok (.iload_n 1, 1) := by decide +kernel
theorem d_T_pull_31 : decode b_T_pull 31 = .ok (.iload_n 2, 1) := by decide +kernel
theorem d_T_pull_32 : decode b_T_pull 32 = .ok (.iload_n 3, 1) := by decide +kernel
theorem d_T_pull_33 : decode b_T_pull 33 = .ok (.invokevirtual 203, 3) := by decide +kernel
theorem d_T_pull_36 : decode b_T_pull 36 = .ok (.ireturn, 1) := by decide +kernel
theorem d_T_first_0 : decode b_T_first 0 = .ok (.iload_n 1, 1) := by decide +kernel
theorem d_T_first_1 : decode b_T_first 1 = .ok (.iload_n 2, 1) := by decide +kernel
theorem d_T_first_2 : decode b_T_first 2 = .ok (.invokestatic 153, 3) := by decide +kernel
theorem d_T_first_5 : decode b_T_first 5 = .ok (.ifCond .eq 8, 3) := by decide +kernel
theorem d_T_first_8 : decode b_T_first 8 = .ok (.iload_n 3, 1) := by decide +kernel
theorem d_T_first_9 : decode b_T_first 9 = .ok (.iconst (-1), 1) := by decide +kernel
theorem d_T_first_10 : decode b_T_first 10 = .ok (.if_icmp .ge 10, 3) := by decide +kernel
theorem d_T_first_13 : decode b_T_first 13 = .ok (.aload_n 0, 1) := by decide +kernel
theorem d_T_first_14 : decode b_T_first 14 = .ok (.bipush (-10), 2) := by decide +kernel
theorem d_T_first_16 : decode b_T_first 16 = .ok (.invokevirtual 78, 3) := by decide +kernel
theorem d_T_first_19 : decode b_T_first 19 = .ok (.ireturn, 1) := by decide +kernel
theorem d_T_first_20 : decode b_T_first 20 = .ok (.aload_n 0, 1) := by decide +kernel
theorem d_T_first_21 : decode b_T_first 21 = .ok (.invokevirtual 165, 3) := by decide +kernel
theorem d_T_first_24 : decode b_T_first 24 = .ok (.iload_n 1, 1) := by decide +kernel
theorem d_T_first_25 : decode b_T_first 25 = .ok (.iload_n 2, 1) := by decide +kernel
theorem d_T_first_26 : decode b_T_first 26 = .ok (.invokevirtual 169, 3) := by decide +kernel
theorem d_T_first_29 : decode b_T_first 29 = .ok (.iload_n 3, 1) := by decide +kernel
theorem d_T_first_30 : decode b_T_first 30 = .ok (.iconst (-1), 1) := by decide +kernel
theorem d_T_first_31 : decode b_T_first 31 = .ok (.if_icmp .ne 11, 3) := by decide +kernel
theorem d_T_first_34 : decode b_T_first 34 = .ok (.aload_n 0, 1) := by decide +kernel
theorem d_T_first_35 : decode b_T_first 35 = .ok (.getfield 21, 3) := by decide +kernel
theorem d_T_first_38 : decode b_T_first 38 = .ok (.getfield 174, 3) := by decide +kernel
theorem d_T_first_41 : decode b_T_first 41 = .ok (.ireturn, 1) := by decide +kernel
theorem d_T_first_42 : decode b_T_first 42 = .ok (.iload_n 3, 1) := by decide +kernel
theorem d_T_first_43 : decode b_T_first 43 = .ok (.aload_n 0, 1) := by decide +kernel
theorem d_T_first_44 : decode b_T_first 44 = .ok (.getfield 21, 3) := by decide +kernel
theorem d_T_first_47 : decode b_T_first 47 = .ok (.getfield 174, 3) := by decide +kernel
theorem d_T_first_50 : decode b_T_first 50 = .ok (.if_icmp .ge 15, 3) := by decide +kernel
theorem d_T_first_53 : decode b_T_first 53 = .ok (.aload_n 0, 1) := by decide +kernel
theorem d_T_first_54 : decode b_T_first 54 = .ok (.getfield 21, 3) := by decide +kernel
theorem d_T_first_57 : decode b_T_first 57 = .ok (.getfield 207, 3) := by decide +kernel
theorem d_T_first_60 : decode b_T_first 60 = .ok (.iload_n 3, 1) := by decide +kernel
theorem d_T_first_61 : decode b_T_first 61 = .ok (.iaload, 1) := by decide +kernel
theorem d_T_first_62 : decode b_T_first 62 = .ok (.goto 5, 3) := by decide +kernel
theorem d_T_first_65 : decode b_T_first 65 = .ok (.bipush (-5), 2) := by decide +kernel
theorem d_T_first_67 : decode b_T_first 67 = .ok (.ireturn, 1) := by decide +kernel
theorem d_T_lost_0 : decode b_T_lost 0 = .ok (.aload_n 0, 1) := by decide +kernel
theorem d_T_lost_1 : decode b_T_lost 1 = .ok (.getfield 10, 3) := by decide +kernel
theorem d_T_lost_4 : decode b_T_lost 4 = .ok (.iload_n 1, 1) := by decide +kernel
theorem d_T_lost_5 : decode b_T_lost 5 = .ok (.invokevirtual 177, 3) := by decide +kernel
theorem d_T_lost_8 : decode b_T_lost 8 = .ok (.ifCond .eq 11, 3) := by decide +kernel
theorem d_T_lost_11 : decode b_T_lost 11 = .ok (.iload_n 2, 1) := by decide +kernel
theorem d_T_lost_12 : decode b_T_lost 12 = .ok (.iload_n 3, 1) := by decide +kernel
theorem d_T_lost_13 : decode b_T_lost 13 = .ok (.invokestatic 153, 3) := by decide +kernel
theorem d_T_lost_16 : decode b_T_lost 16 = .ok (.ifCond .ne 10, 3) := by decide +kernel
theorem d_T_lost_19 : decode b_T_lost 19 = .ok (.aload_n 0, 1) := by decide +kernel
theorem d_T_lost_20 : decode b_T_lost 20 = .ok (.bipush (-2), 2) := by decide +kernel
theorem d_T_lost_22 : decode b_T_lost 22 = .ok (.invokevirtual 78, 3) := by decide +kernel
theorem d_T_lost_25 : decode b_T_lost 25 = .ok (.ireturn, 1) := by decide +kernel
theorem d_T_lost_26 : decode b_T_lost 26 = .ok (.aload_n 0, 1) := by decide +kernel
theorem d_T_lost_27 : decode b_T_lost 27 = .ok (.invokevirtual 165, 3) := by decide +kernel
theorem d_T_lost_30 : decode b_T_lost 30 = .ok (.pop, 1) := by decide +kernel
theorem d_T_lost_31 : decode b_T_lost 31 = .ok (.aload_n 0, 1) := by decide +kernel
theorem d_T_lost_32 : decode b_T_lost 32 = .ok (.getfield 21, 3) := by decide +kernel
theorem d_T_lost_35 : decode b_T_lost 35 = .ok (.aload_n 0, 1) := by decide +kernel
theorem d_T_lost_36 : decode b_T_lost 36 = .ok (.getfield 21, 3) := by decide +kernel
theorem d_T_lost_39 : decode b_T_lost 39 = .ok (.getfield 173, 3) := by decide +kernel
theorem d_T_lost_42 : decode b_T_lost 42 = .ok (.iload_n 1, 1) := by decide +kernel
theorem d_T_lost_43 : decode b_T_lost 43 = .ok (.iconst 0, 1) := by decide +kernel
theorem d_T_lost_44 : decode b_T_lost 44 = .ok (.invokestatic 183, 3) := by decide +kernel
theorem d_T_lost_47 : decode b_T_lost 47 = .ok (.putfield 173, 3) := by decide +kernel
theorem d_T_lost_50 : decode b_T_lost 50 = .ok (.aload_n 0, 1) := by decide +kernel
theorem d_T_lost_51 : decode b_T_lost 51 = .ok (.getfield 21, 3) := by decide +kernel
theorem d_T_lost_54 : decode b_T_lost 54 = .ok (.iload_n 2, 1) := by decide +kernel
theorem d_T_lost_55 : decode b_T_lost 55 = .ok (.iload_n 3, 1) := by decide +kernel
theorem d_T_lost_56 : decode b_T_lost 56 = .ok (.invokevirtual 169, 3) := by decide +kernel
theorem d_T_lost_59 : decode b_T_lost 59 = .ok (.aload_n 0, 1) := by decide +kernel
theorem d_T_lost_60 : decode b_T_lost 60 = .ok (.getfield 21, 3) := by decide +kernel
theorem d_T_lost_63 : decode b_T_lost 63 = .ok (.getfield 173, 3) := by decide +kernel
theorem d_T_lost_66 : decode b_T_lost 66 = .ok (.ifCond .ne 7, 3) := by decide +kernel
theorem d_T_lost_69 : decode b_T_lost 69 = .ok (.iconst 1, 1) := by decide +kernel
theorem d_T_lost_70 : decode b_T_lost 70 = .ok (.goto 4, 3) := by decide +kernel
theorem d_T_lost_73 : decode b_T_lost 73 = .ok (.iconst 0, 1) := by decide +kernel
theorem d_T_lost_74 : decode b_T_lost 74 = .ok (.ireturn, 1) := by decide +kernel
theorem d_G_borneBy_0 : decode b_G_borneBy 0 = .ok (.bipush 120, 2) := by decide +kernel
theorem d_G_borneBy_2 : decode b_G_borneBy 2 = .ok (.istore_n 2, 1) := by decide +kernel
theorem d_G_borneBy_3 : decode b_G_borneBy 3 = .ok (.iconst 0, 1) := by decide +kernel
theorem d_G_borneBy_4 : decode b_G_borneBy 4 = .ok (.istore_n 3, 1) := by decide +kernel
theorem d_G_borneBy_5 : decode b_G_borneBy 5 = .ok (.iload_n 3, 1) := by decide +kernel
theorem d_G_borneBy_6 : decode b_G_borneBy 6 = .ok (.aload_n 0, 1) := by decide +kernel
theorem d_G_borneBy_7 : decode b_G_borneBy 7 = .ok (.getfield 34, 3) := by decide +kernel
theorem d_G_borneBy_10 : decode b_G_borneBy 10 = .ok (.getfield 42, 3) := by decide +kernel
theorem d_G_borneBy_13 : decode b_G_borneBy 13 = .ok (.if_icmp .ge 50, 3) := by decide +kernel
theorem d_G_borneBy_16 : decode b_G_borneBy 16 = .ok (.aload_n 0, 1) := by decide +kernel
theorem d_G_borneBy_17 : decode b_G_borneBy 17 = .ok (.iload_n 3, 1) := by decide +kernel
theorem d_G_borneBy_18 : decode b_G_borneBy 18 = .ok (.iload_n 1, 1) := by decide +kernel
theorem d_G_borneBy_19 : decode b_G_borneBy 19 = .ok (.invokevirtual 92, 3) := by decide +kernel
theorem d_G_borneBy_22 : decode b_G_borneBy 22 = .ok (.istore 4, 2) := by decide +kernel
theorem d_G_borneBy_24 : decode b_G_borneBy 24 = .ok (.aload_n 0, 1) := by decide +kernel
theorem d_G_borneBy_25 : decode b_G_borneBy 25 = .ok (.getfield 22, 3) := by decide +kernel
theorem d_G_borneBy_28 : decode b_G_borneBy 28 = .ok (.iload_n 3, 1) := by decide +kernel
theorem d_G_borneBy_29 : decode b_G_borneBy 29 = .ok (.invokestatic 63, 3) := by decide +kernel
theorem d_G_borneBy_32 : decode b_G_borneBy 32 = .ok (.ifCond .eq 25, 3) := by decide +kernel
theorem d_G_borneBy_35 : decode b_G_borneBy 35 = .ok (.iload 4, 2) := by decide +kernel
theorem d_G_borneBy_37 : decode b_G_borneBy 37 = .ok (.ifCond .le 20, 3) := by decide +kernel
theorem d_G_borneBy_40 : decode b_G_borneBy 40 = .ok (.iload_n 2, 1) := by decide +kernel
theorem d_G_borneBy_41 : decode b_G_borneBy 41 = .ok (.iconst 4, 1) := by decide +kernel
theorem d_G_borneBy_42 : decode b_G_borneBy 42 = .ok (.aload_n 0, 1) := by decide +kernel
theorem d_G_borneBy_43 : decode b_G_borneBy 43 = .ok (.iload_n 3, 1) := by decide +kernel
theorem d_G_borneBy_44 : decode b_G_borneBy 44 = .ok (.invokevirtual 99, 3) := by decide +kernel
theorem d_G_borneBy_47 : decode b_G_borneBy 47 = .ok (.imul, 1) := by decide +kernel
theorem d_G_borneBy_48 : decode b_G_borneBy 48 = .ok (.iconst 3, 1) := by decide +kernel
theorem d_G_borneBy_49 : decode b_G_borneBy 49 = .ok (.iadd, 1) := by decide +kernel
theorem d_G_borneBy_50 : decode b_G_borneBy 50 = .ok (.iload 4, 2) := by decide +kernel
theorem d_G_borneBy_52 : decode b_G_borneBy 52 = .ok (.idiv, 1) := by decide +kernel
theorem d_G_borneBy_53 : decode b_G_borneBy 53 = .ok (.invokestatic 86, 3) := by decide +kernel
theorem d_G_borneBy_56 : decode b_G_borneBy 56 = .ok (.istore_n 2, 1) := by decide +kernel
theorem d_G_borneBy_57 : decode b_G_borneBy 57 = .ok (.iinc 3 1, 3) := by decide +kernel
theorem d_G_borneBy_60 : decode b_G_borneBy 60 = .ok (.goto (-55), 3) := by decide +kernel
theorem d_G_borneBy_63 : decode b_G_borneBy 63 = .ok (.iconst 0, 1) := by decide +kernel
theorem d_G_borneBy_64 : decode b_G_borneBy 64 = .ok (.istore_n 3, 1) := by decide +kernel
theorem d_G_borneBy_65 : decode b_G_borneBy 65 = .ok (.iload_n 3, 1) := by decide +kernel
theorem d_G_borneBy_66 : decode b_G_borneBy 66 = .ok (.bipush 60, 2) := by decide +kernel
theorem d_G_borneBy_68 : decode b_G_borneBy 68 = .ok (.if_icmp .ge 21, 3) := by decide +kernel
theorem d_G_borneBy_71 : decode b_G_borneBy 71 = .ok (.aload_n 0, 1) := by decide +kernel
theorem d_G_borneBy_72 : decode b_G_borneBy 72 = .ok (.iload_n 1, 1) := by decide +kernel
theorem d_G_borneBy_73 : decode b_G_borneBy 73 = .ok (.iload_n 3, 1) := by decide +kernel
theorem d_G_borneBy_74 : decode b_G_borneBy 74 = .ok (.iconst 1, 1) := by decide +kernel
theorem d_G_borneBy_75 : decode b_G_borneBy 75 = .ok (.iadd, 1) := by decide +kernel
theorem d_G_borneBy_76 : decode b_G_borneBy 76 = .ok (.invokevirtual 89, 3) := by decide +kernel
theorem d_G_borneBy_79 : decode b_G_borneBy 79 = .ok (.iload_n 2, 1) := by decide +kernel
theorem d_G_borneBy_80 : decode b_G_borneBy 80 = .ok (.if_icmp .gt 9, 3) := by decide +kernel
theorem d_G_borneBy_83 : decode b_G_borneBy 83 = .ok (.iinc 3 1, 3) := by decide +kernel
theorem d_G_borneBy_86 : decode b_G_borneBy 86 = .ok (.goto (-21), 3) := by decide +kernel
theorem d_G_borneBy_89 : decode b_G_borneBy 89 = .ok (.iload_n 3, 1) := by decide +kernel
theorem d_G_borneBy_90 : decode b_G_borneBy 90 = .ok (.ireturn, 1) := by decide +kernel
theorem d_G_leastBorne_0 : decode b_G_leastBorne 0 = .ok (.bipush 60, 2) := by decide +kernel
theorem d_G_leastBorne_2 : decode b_G_leastBorne 2 = .ok (.istore_n 1, 1) := by decide +kernel
theorem d_G_leastBorne_3 : decode b_G_leastBorne 3 = .ok (.iconst 0, 1) := by decide +kernel
theorem d_G_leastBorne_4 : decode b_G_leastBorne 4 = .ok (.istore_n 2, 1) := by decide +kernel
theorem d_G_leastBorne_5 : decode b_G_leastBorne 5 = .ok (.iload_n 2, 1) := by decide +kernel
theorem d_G_leastBorne_6 : decode b_G_leastBorne 6 = .ok (.bipush 8, 2) := by decide +kernel
theorem d_G_leastBorne_8 : decode b_G_leastBorne 8 = .ok (.if_icmp .ge 19, 3) := by decide +kernel
theorem d_G_leastBorne_11 : decode b_G_leastBorne 11 = .ok (.iload_n 1, 1) := by decide +kernel
theorem d_G_leastBorne_12 : decode b_G_leastBorne 12 = .ok (.aload_n 0, 1) := by decide +kernel
theorem d_G_leastBorne_13 : decode b_G_leastBorne 13 = .ok (.iload_n 2, 1) := by decide +kernel
theorem d_G_leastBorne_14 : decode b_G_leastBorne 14 = .ok (.invokevirtual 120, 3) := by decide +kernel
theorem d_G_leastBorne_17 : decode b_G_leastBorne 17 = .ok (.invokestatic 86, 3) := by decide +kernel
theorem d_G_leastBorne_20 : decode b_G_leastBorne 20 = .ok (.istore_n 1, 1) := by decide +kernel
theorem d_G_leastBorne_21 : decode b_G_leastBorne 21 = .ok (.iinc 2 1, 3) := by decide +kernel
theorem d_G_leastBorne_24 : decode b_G_leastBorne 24 = .ok (.goto (-19), 3) := by decide +kernel
theorem d_G_leastBorne_27 : decode b_G_leastBorne 27 = .ok (.iload_n 1, 1) := by decide +kernel
theorem d_G_leastBorne_28 : decode b_G_leastBorne 28 = .ok (.ireturn, 1) := by decide +kernel
theorem d_G_weakestWay_0 : decode b_G_weakestWay 0 = .ok (.aload_n 0, 1) := by decide +kernel
theorem d_G_weakestWay_1 : decode b_G_weakestWay 1 = .ok (.invokevirtual 123, 3) := by decide +kernel
theorem d_G_weakestWay_4 : decode b_G_weakestWay 4 = .ok (.istore_n 1, 1) := by decide +kernel
theorem d_G_weakestWay_5 : decode b_G_weakestWay 5 = .ok (.iconst 0, 1) := by decide +kernel
theorem d_G_weakestWay_6 : decode b_G_weakestWay 6 = .ok (.istore_n 2, 1) := by decide +kernel
theorem d_G_weakestWay_7 : decode b_G_weakestWay 7 = .ok (.iload_n 2, 1) := by decide +kernel
theorem d_G_weakestWay_8 : decode b_G_weakestWay 8 = .ok (.bipush 8, 2) := by decide +kernel
theorem d_G_weakestWay_10 : decode b_G_weakestWay 10 = .ok (.if_icmp .ge 20, 3) := by decide +kernel
theorem d_G_weakestWay_13 : decode b_G_weakestWay 13 = .ok (.aload_n 0, 1) := by decide +kernel
theorem d_G_weakestWay_14 : decode b_G_weakestWay 14 = .ok (.iload_n 2, 1) := by decide +kernel
theorem d_G_weakestWay_15 : decode b_G_weakestWay 15 = .ok (.invokevirtual 120, 3) := by decide +kernel
theorem d_G_weakestWay_18 : decode b_G_weakestWay 18 = .ok (.iload_n 1, 1) := by decide +kernel
theorem d_G_weakestWay_19 : decode b_G_weakestWay 19 = .ok (.if_icmp .ne 5, 3) := by decide +kernel
theorem d_G_weakestWay_22 : decode b_G_weakestWay 22 = .ok (.iload_n 2, 1) := by decide +kernel
theorem d_G_weakestWay_23 : decode b_G_weakestWay 23 = .ok (.ireturn, 1) := by decide +kernel
theorem d_G_weakestWay_24 : decode b_G_weakestWay 24 = .ok (.iinc 2 1, 3) := by decide +kernel
theorem d_G_weakestWay_27 : decode b_G_weakestWay 27 = .ok (.goto (-20), 3) := by decide +kernel
theorem d_G_weakestWay_30 : decode b_G_weakestWay 30 = .ok (.iconst (-1), 1) := by decide +kernel
theorem d_G_weakestWay_31 : decode b_G_weakestWay 31 = .ok (.ireturn, 1) := by decide +kernel
theorem d_T_bears_0 : decode b_T_bears 0 = .ok (.iload_n 1, 1) := by decide +kernel
theorem d_T_bears_1 : decode b_T_bears 1 = .ok (.iconst (-1), 1) := by decide +kernel
theorem d_T_bears_2 : decode b_T_bears 2 = .ok (.if_icmp .ne 11, 3) := by decide +kernel
theorem d_T_bears_5 : decode b_T_bears 5 = .ok (.aload_n 0, 1) := by decide +kernel
theorem d_T_bears_6 : decode b_T_bears 6 = .ok (.invokevirtual 165, 3) := by decide +kernel
theorem d_T_bears_9 : decode b_T_bears 9 = .ok (.invokevirtual 210, 3) := by decide +kernel
theorem d_T_bears_12 : decode b_T_bears 12 = .ok (.ireturn, 1) := by decide +kernel
theorem d_T_bears_13 : decode b_T_bears 13 = .ok (.iload_n 1, 1) := by decide +kernel
theorem d_T_bears_14 : decode b_T_bears 14 = .ok (.invokestatic 107, 3) := by decide +kernel
theorem d_T_bears_17 : decode b_T_bears 17 = .ok (.ifCond .eq 14, 3) := by decide +kernel
theorem d_T_bears_20 : decode b_T_bears 20 = .ok (.aload_n 0, 1) := by decide +kernel
theorem d_T_bears_21 : decode b_T_bears 21 = .ok (.invokevirtual 165, 3) := by decide +kernel
theorem d_T_bears_24 : decode b_T_bears 24 = .ok (.iload_n 1, 1) := by decide +kernel
theorem d_T_bears_25 : decode b_T_bears 25 = .ok (.invokevirtual 213, 3) := by decide +kernel
theorem d_T_bears_28 : decode b_T_bears 28 = .ok (.goto 9, 3) := by decide +kernel
theorem d_T_bears_31 : decode b_T_bears 31 = .ok (.aload_n 0, 1) := by decide +kernel
theorem d_T_bears_32 : decode b_T_bears 32 = .ok (.bipush (-10), 2) := by decide +kernel
theorem d_T_bears_34 : decode b_T_bears 34 = .ok (.invokevirtual 78, 3) := by decide +kernel
theorem d_T_bears_37 : decode b_T_bears 37 = .ok (.ireturn, 1) := by decide +kernel
theorem d_P_bestToDouble_0 : decode b_P_bestToDouble 0 = .ok (.iconst 0, 1) := by decide +kernel
theorem d_P_bestToDouble_1 : decode b_P_bestToDouble 1 = .ok (.istore_n 2, 1) := by decide +kernel
theorem d_P_bestToDouble_2 : decode b_P_bestToDouble 2 = .ok (.iconst (-1), 1) := by decide +kernel
theorem d_P_bestToDouble_3 : decode b_P_bestToDouble 3 = .ok (.istore_n 3, 1) := by decide +kernel
theorem d_P_bestToDouble_4 : decode b_P_bestToDouble 4 = .ok (.iconst 0, 1) := by decide +kernel
theorem d_P_bestToDouble_5 : decode b_P_bestToDouble 5 = .ok (.istore 4, 2) := by decide +kernel
theorem d_P_bestToDouble_7 : decode b_P_bestToDouble 7 = .ok (.iload 4, 2) := by decide +kernel
theorem d_P_bestToDouble_9 : decode b_P_bestToDouble 9 = .ok (.aload_n 0, 1) := by decide +kernel
theorem d_P_bestToDouble_10 : decode b_P_bestToDouble 10 = .ok (.getfield 25, 3) := by decide +kernel
theorem d_P_bestToDouble_13 : decode b_P_bestToDouble 13 = .ok (.getfield 37, 3) := by decide +kernel
theorem d_P_bestToDouble_16 : decode b_P_bestToDouble 16 = .ok (.if_icmp .ge 104, 3) := by decide +kernel
theorem d_P_bestToDouble_19 : decode b_P_bestToDouble 19 = .ok (.iload 4, 2) := by decide +kernel
theorem d_P_bestToDouble_21 : decode b_P_bestToDouble 21 = .ok (.istore 5, 2) := by decide +kernel
theorem d_P_bestToDouble_23 : decode b_P_bestToDouble 23 = .ok (.iload 5, 2) := by decide +kernel
theorem d_P_bestToDouble_25 : decode b_P_bestToDouble 25 = .ok (.aload_n 0, 1) := by decide +kernel
theorem d_P_bestToDouble_26 : decode b_P_bestToDouble 26 = .ok (.getfield 25, 3) := by decide +kernel
theorem d_P_bestToDouble_29 : decode b_P_bestToDouble 29 = .ok (.getfield 37, 3) := by decide +kernel
theorem d_P_bestToDouble_32 : decode b_P_bestToDouble 32 = .ok (.if_icmp .ge 82, 3) := by decide +kernel
theorem d_P_bestToDouble_35 : decode b_P_bestToDouble 35 = .ok (.iconst 1, 1) := by decide +kernel
theorem d_P_bestToDouble_36 : decode b_P_bestToDouble 36 = .ok (.iload 4, 2) := by decide +kernel
theorem d_P_bestToDouble_38 : decode b_P_bestToDouble 38 = .ok (.ishl, 1) := by decide +kernel
theorem d_P_bestToDouble_39 : decode b_P_bestToDouble 39 = .ok (.iconst 1, 1) := by decide +kernel
theorem d_P_bestToDouble_40 : decode b_P_bestToDouble 40 = .ok (.iload 5, 2) := by decide +kernel
theorem d_P_bestToDouble_42 : decode b_P_bestToDouble 42 = .ok (.ishl, 1) := by decide +kernel
theorem d_P_bestToDouble_43 : decode b_P_bestToDouble 43 = .ok (.ior, 1) := by decide +kernel
theorem d_P_bestToDouble_44 : decode b_P_bestToDouble 44 = .ok (.istore 6, 2) := by decide +kernel
theorem d_P_bestToDouble_46 : decode b_P_bestToDouble 46 = .ok (.iload 6, 2) := by decide +kernel
theorem d_P_bestToDouble_48 : decode b_P_bestToDouble 48 = .ok (.invokestatic 42, 3) := by decide +kernel
theorem d_P_bestToDouble_51 : decode b_P_bestToDouble 51 = .ok (.iload_n 1, 1) := by decide +kernel
theorem d_P_bestToDouble_52 : decode b_P_bestToDouble 52 = .ok (.if_icmp .ne 56, 3) := by decide +kernel
theorem d_P_bestToDouble_55 : decode b_P_bestToDouble 55 = .ok (.iload 6, 2) := by decide +kernel
theorem d_P_bestToDouble_57 : decode b_P_bestToDouble 57 = .ok (.aload_n 0, 1) := by decide +kernel
theorem d_P_bestToDouble_58 : decode b_P_bestToDouble 58 = .ok (.getfield 29, 3) := by decide +kernel
theorem d_P_bestToDouble_61 : decode b_P_bestToDouble 61 = .ok (.getfield 48, 3) := by decide +kernel
theorem d_P_bestToDouble_64 : decode b_P_bestToDouble 64 = .ok (.iconst (-1), 1) := by decide +kernel
theorem d_P_bestToDouble_65 : decode b_P_bestToDouble 65 = .ok (.ixor, 1) := by decide +kernel
theorem d_P_bestToDouble_66 : decode b_P_bestToDouble 66 = .ok (.iand, 1) := by decide +kernel
theorem d_P_bestToDouble_67 : decode b_P_bestToDouble 67 = .ok (.ifCond .ne 41, 3) := by decide +kernel
theorem d_P_bestToDouble_70 : decode b_P_bestToDouble 70 = .ok (.aload_n 0, 1) := by decide +kernel
theorem d_P_bestToDouble_71 : decode b_P_bestToDouble 71 = .ok (.getfield 29, 3) := by decide +kernel
theorem d_P_bestToDouble_74 : decode b_P_bestToDouble 74 = .ok (.iload 6, 2) := by decide +kernel
theorem d_P_bestToDouble_76 : decode b_P_bestToDouble 76 = .ok (.putfield 53, 3) := by decide +kernel
theorem d_P_bestToDouble_79 : decode b_P_bestToDouble 79 = .ok (.aload_n 0, 1) := by decide +kernel
theorem d_P_bestToDouble_80 : decode b_P_bestToDouble 80 = .ok (.getfield 29, 3) := by decide +kernel
theorem d_P_bestToDouble_83 : decode b_P_bestToDouble 83 = .ok (.invokevirtual 56, 3) := by decide +kernel
theorem d_P_bestToDouble_86 : decode b_P_bestToDouble 86 = .ok (.istore 7, 2) := by decide +kernel
theorem d_P_bestToDouble_88 : decode b_P_bestToDouble 88 = .ok (.iload 7, 2) := by decide +kernel
theorem d_P_bestToDouble_90 : decode b_P_bestToDouble 90 = .ok (.iload_n 3, 1) := by decide +kernel
theorem d_P_bestToDouble_91 : decode b_P_bestToDouble 91 = .ok (.if_icmp .le 8, 3) := by decide +kernel
theorem d_P_bestToDouble_94 : decode b_P_bestToDouble 94 = .ok (.iload 6, 2) := by decide +kernel
theorem d_P_bestToDouble_96 : decode b_P_bestToDouble 96 = .ok (.goto 4, 3) := by decide +kernel
theorem d_P_bestToDouble_99 : decode b_P_bestToDouble 99 = .ok (.iload_n 2, 1) := by decide +kernel
theorem d_P_bestToDouble_100 : decode b_P_bestToDouble 100 = .ok (.istore_n 2, 1) := by decide +kernel
theorem d_P_bestToDouble_101 : decode b_P_bestToDouble 101 = .ok (.iload_n 3, 1) := by decide +kernel
theorem d_P_bestToDouble_102 : decode b_P_bestToDouble 102 = .ok (.iload 7, 2) := by decide +kernel
theorem d_P_bestToDouble_104 : decode b_P_bestToDouble 104 = .ok (.invokestatic 60, 3) := by decide +kernel
theorem d_P_bestToDouble_107 : decode b_P_bestToDouble 107 = .ok (.istore_n 3, 1) := by decide +kernel
theorem d_P_bestToDouble_108 : decode b_P_bestToDouble 108 = .ok (.iinc 5 1, 3) := by decide +kernel
theorem d_P_bestToDouble_111 : decode b_P_bestToDouble 111 = .ok (.goto (-88), 3) := by decide +kernel
theorem d_P_bestToDouble_114 : decode b_P_bestToDouble 114 = .ok (.iinc 4 1, 3) := by decide +kernel
theorem d_P_bestToDouble_117 : decode b_P_bestToDouble 117 = .ok (.goto (-110), 3) := by decide +kernel
theorem d_P_bestToDouble_120 : decode b_P_bestToDouble 120 = .ok (.iload_n 2, 1) := by decide +kernel
theorem d_P_bestToDouble_121 : decode b_P_bestToDouble 121 = .ok (.ireturn, 1) := by decide +kernel
theorem d_P_memberOf_0 : decode b_P_memberOf 0 = .ok (.iload_n 1, 1) := by decide +kernel
theorem d_P_memberOf_1 : decode b_P_memberOf 1 = .ok (.istore_n 2, 1) := by decide +kernel
theorem d_P_memberOf_2 : decode b_P_memberOf 2 = .ok (.iconst 0, 1) := by decide +kernel
theorem d_P_memberOf_3 : decode b_P_memberOf 3 = .ok (.istore_n 3, 1) := by decide +kernel
theorem d_P_memberOf_4 : decode b_P_memberOf 4 = .ok (.iload_n 3, 1) := by decide +kernel
theorem d_P_memberOf_5 : decode b_P_memberOf 5 = .ok (.bipush 8, 2) := by decide +kernel
theorem d_P_memberOf_7 : decode b_P_memberOf 7 = .ok (.if_icmp .ge 26, 3) := by decide +kernel
theorem d_P_memberOf_10 : decode b_P_memberOf 10 = .ok (.iload_n 0, 1) := by decide +kernel
theorem d_P_memberOf_11 : decode b_P_memberOf 11 = .ok (.iload_n 3, 1) := by decide +kernel
theorem d_P_memberOf_12 : decode b_P_memberOf 12 = .ok (.invokestatic 33, 3) := by decide +kernel
theorem d_P_memberOf_15 : decode b_P_memberOf 15 = .ok (.ifCond .eq 12, 3) := by decide +kernel
theorem d_P_memberOf_18 : decode b_P_memberOf 18 = .ok (.iload_n 2, 1) := by decide +kernel
theorem d_P_memberOf_19 : decode b_P_memberOf 19 = .ok (.ifCond .ne 5, 3) := by decide +kernel
theorem d_P_memberOf_22 : decode b_P_memberOf 22 = .ok (.iload_n 3, 1) := by decide +kernel
theorem d_P_memberOf_23 : decode b_P_memberOf 23 = .ok (.ireturn, 1) := by decide +kernel
theorem d_P_memberOf_24 : decode b_P_memberOf 24 = .ok (.iinc 2 (-1), 3) := by decide +kernel
theorem d_P_memberOf_27 : decode b_P_memberOf 27 = .ok (.iinc 3 1, 3) := by decide +kernel
theorem d_P_memberOf_30 : decode b_P_memberOf 30 = .ok (.goto (-26), 3) := by decide +kernel
theorem d_P_memberOf_33 : decode b_P_memberOf 33 = .ok (.iconst (-1), 1) := by decide +kernel
theorem d_P_memberOf_34 : decode b_P_memberOf 34 = .ok (.ireturn, 1) := by decide +kernel
theorem d_T_twofold_0 : decode b_T_twofold 0 = .ok (.iload_n 1, 1) := by decide +kernel
theorem d_T_twofold_1 : decode b_T_twofold 1 = .ok (.iconst 1, 1) := by decide +kernel
theorem d_T_twofold_2 : decode b_T_twofold 2 = .ok (.iconst 2, 1) := by decide +kernel
theorem d_T_twofold_3 : decode b_T_twofold 3 = .ok (.invokestatic 128, 3) := by decide +kernel
theorem d_T_twofold_6 : decode b_T_twofold 6 = .ok (.ifCond .eq 8, 3) := by decide +kernel
theorem d_T_twofold_9 : decode b_T_twofold 9 = .ok (.iload_n 2, 1) := by decide +kernel
theorem d_T_twofold_10 : decode b_T_twofold 10 = .ok (.iconst (-1), 1) := by decide +kernel
theorem d_T_twofold_11 : decode b_T_twofold 11 = .ok (.if_icmp .ge 10, 3) := by decide +kernel
theorem d_T_twofold_14 : decode b_T_twofold 14 = .ok (.aload_n 0, 1) := by decide +kernel
theorem d_T_twofold_15 : decode b_T_twofold 15 = .ok (.bipush (-10), 2) := by decide +kernel
theorem d_T_twofold_17 : decode b_T_twofold 17 = .ok (.invokevirtual 78, 3) := by decide +kernel
theorem d_T_twofold_20 : decode b_T_twofold 20 = .ok (.ireturn, 1) := by decide +kernel
theorem d_T_twofold_21 : decode b_T_twofold 21 = .ok (.aload_n 0, 1) := by decide +kernel
theorem d_T_twofold_22 : decode b_T_twofold 22 = .ok (.getfield 10, 3) := by decide +kernel
theorem d_T_twofold_25 : decode b_T_twofold 25 = .ok (.getfield 156, 3) := by decide +kernel
theorem d_T_twofold_28 : decode b_T_twofold 28 = .ok (.invokestatic 216, 3) := by decide +kernel
theorem d_T_twofold_31 : decode b_T_twofold 31 = .ok (.iload_n 1, 1) := by decide +kernel
theorem d_T_twofold_32 : decode b_T_twofold 32 = .ok (.if_icmp .ge 5, 3) := by decide +kernel
theorem d_T_twofold_35 : decode b_T_twofold 35 = .ok (.iconst (-1), 1) := by decide +kernel
theorem d_T_twofold_36 : decode b_T_twofold 36 = .ok (.ireturn, 1) := by decide +kernel
theorem d_T_twofold_37 : decode b_T_twofold 37 = .ok (.iload_n 2, 1) := by decide +kernel
theorem d_T_twofold_38 : decode b_T_twofold 38 = .ok (.iload_n 1, 1) := by decide +kernel
theorem d_T_twofold_39 : decode b_T_twofold 39 = .ok (.if_icmp .lt 6, 3) := by decide +kernel
theorem d_T_twofold_42 : decode b_T_twofold 42 = .ok (.bipush (-5), 2) := by decide +kernel
theorem d_T_twofold_44 : decode b_T_twofold 44 = .ok (.ireturn, 1) := by decide +kernel
theorem d_T_twofold_45 : decode b_T_twofold 45 = .ok (.aload_n 0, 1) := by decide +kernel
theorem d_T_twofold_46 : decode b_T_twofold 46 = .ok (.invokevirtual 165, 3) := by decide +kernel
theorem d_T_twofold_49 : decode b_T_twofold 49 = .ok (.pop, 1) := by decide +kernel
theorem d_T_twofold_50 : decode b_T_twofold 50 = .ok (.aload_n 0, 1) := by decide +kernel
theorem d_T_twofold_51 : decode b_T_twofold 51 = .ok (.getfield 30, 3) := by decide +kernel
theorem d_T_twofold_54 : decode b_T_twofold 54 = .ok (.iload_n 1, 1) := by decide +kernel
theorem d_T_twofold_55 : decode b_T_twofold 55 = .ok (.invokevirtual 221, 3) := by decide +kernel
theorem d_T_twofold_58 : decode b_T_twofold 58 = .ok (.istore_n 3, 1) := by decide +kernel
theorem d_T_twofold_59 : decode b_T_twofold 59 = .ok (.aload_n 0, 1) := by decide +kernel
theorem d_T_twofold_60 : decode b_T_twofold 60 = .ok (.getfield 21, 3) := by decide +kernel
theorem d_T_twofold_63 : decode b_T_twofold 63 = .ok (.iload_n 3, 1) := by decide +kernel
theorem d_T_twofold_64 : decode b_T_twofold 64 = .ok (.putfield 224, 3) := by decide +kernel
theorem d_T_twofold_67 : decode b_T_twofold 67 = .ok (.iload_n 2, 1) := by decide +kernel
theorem d_T_twofold_68 : decode b_T_twofold 68 = .ok (.iconst (-1), 1) := by decide +kernel
theorem d_T_twofold_69 : decode b_T_twofold 69 = .ok (.if_icmp .ne 13, 3) := by decide +kernel
theorem d_T_twofold_72 : decode b_T_twofold 72 = .ok (.aload_n 0, 1) := by decide +kernel
theorem d_T_twofold_73 : decode b_T_twofold 73 = .ok (.getfield 21, 3) := by decide +kernel
theorem d_T_twofold_76 : decode b_T_twofold 76 = .ok (.invokevirtual 227, 3) := by decide +kernel
theorem d_T_twofold_79 : decode b_T_twofold 79 = .ok (.goto 8, 3) := by decide +kernel
theorem d_T_twofold_82 : decode b_T_twofold 82 = .ok (.iload_n 3, 1) := by decide +kernel
theorem d_T_twofold_83 : decode b_T_twofold 83 = .ok (.iload_n 2, 1) := by decide +kernel
theorem d_T_twofold_84 : decode b_T_twofold 84 = .ok (.invokestatic 230, 3) := by decide +kernel
theorem d_T_twofold_87 : decode b_T_twofold 87 = .ok (.ireturn, 1) := by decide +kernel
theorem d_P_deepEnough_0 : decode b_P_deepEnough 0 = .ok (.iload_n 2, 1) := by decide +kernel
theorem d_P_deepEnough_1 : decode b_P_deepEnough 1 = .ok (.istore 4, 2) := by decide +kernel
theorem d_P_deepEnough_3 : decode b_P_deepEnough 3 = .ok (.iload 4, 2) := by decide +kernel
theorem d_P_deepEnough_5 : decode b_P_deepEnough 5 = .ok (.bipush 9, 2) := by decide +kernel
theorem d_P_deepEnough_7 : decode b_P_deepEnough 7 = .ok (.if_icmp .gt 26, 3) := by decide +kernel
theorem d_P_deepEnough_10 : decode b_P_deepEnough 10 = .ok (.aload_n 0, 1) := by decide +kernel
theorem d_P_deepEnough_11 : decode b_P_deepEnough 11 = .ok (.getfield 29, 3) := by decide +kernel
theorem d_P_deepEnough_14 : decode b_P_deepEnough 14 = .ok (.iload_n 1, 1) := by decide +kernel
theorem d_P_deepEnough_15 : decode b_P_deepEnough 15 = .ok (.iload 4, 2) := by decide +kernel
theorem d_P_deepEnough_17 : decode b_P_deepEnough 17 = .ok (.invokevirtual 66, 3) := by decide +kernel
theorem d_P_deepEnough_20 : decode b_P_deepEnough 20 = .ok (.iload_n 3, 1) := by decide +kernel
theorem d_P_deepEnough_21 : decode b_P_deepEnough 21 = .ok (.if_icmp .lt 6, 3) := by decide +kernel
theorem d_P_deepEnough_24 : decode b_P_deepEnough 24 = .ok (.iload 4, 2) := by decide +kernel
theorem d_P_deepEnough_26 : decode b_P_deepEnough 26 = .ok (.ireturn, 1) := by decide +kernel
theorem d_P_deepEnough_27 : decode b_P_deepEnough 27 = .ok (.iinc 4 1, 3) := by decide +kernel
theorem d_P_deepEnough_30 : decode b_P_deepEnough 30 = .ok (.goto (-27), 3) := by decide +kernel
theorem d_P_deepEnough_33 : decode b_P_deepEnough 33 = .ok (.bipush 10, 2) := by decide +kernel
theorem d_P_deepEnough_35 : decode b_P_deepEnough 35 = .ok (.ireturn, 1) := by decide +kernel
theorem d_P_strokesFor_0 : decode b_P_strokesFor 0 = .ok (.iconst 0, 1) := by decide +kernel
theorem d_P_strokesFor_1 : decode b_P_strokesFor 1 = .ok (.istore_n 3, 1) := by decide +kernel
theorem d_P_strokesFor_2 : decode b_P_strokesFor 2 = .ok (.iconst 0, 1) := by decide +kernel
theorem d_P_strokesFor_3 : decode b_P_strokesFor 3 = .ok (.istore 4, 2) := by decide +kernel
theorem d_P_strokesFor_5 : decode b_P_strokesFor 5 = .ok (.iload 4, 2) := by decide +kernel
theorem d_P_strokesFor_7 : decode b_P_strokesFor 7 = .ok (.aload_n 0, 1) := by decide +kernel
theorem d_P_strokesFor_8 : decode b_P_strokesFor 8 = .ok (.getfield 25, 3) := by decide +kernel
theorem d_P_strokesFor_11 : decode b_P_strokesFor 11 = .ok (.getfield 37, 3) := by decide +kernel
theorem d_P_strokesFor_14 : decode b_P_strokesFor 14 = .ok (.if_icmp .ge 63, 3) := by decide +kernel
theorem d_P_strokesFor_17 : decode b_P_strokesFor 17 = .ok (.aload_n 0, 1) := by decide +kernel
theorem d_P_strokesFor_18 : decode b_P_strokesFor 18 = .ok (.iload 4, 2) := by decide +kernel
theorem d_P_strokesFor_20 : decode b_P_strokesFor 20 = .ok (.aload_n 0, 1) := by decide +kernel
theorem d_P_strokesFor_21 : decode b_P_strokesFor 21 = .ok (.getfield 25, 3) := by decide +kernel
theorem d_P_strokesFor_24 : decode b_P_strokesFor 24 = .ok (.getfield 69, 3) := by decide +kernel
theorem d_P_strokesFor_27 : decode b_P_strokesFor 27 = .ok (.iload 4, 2) := by decide +kernel
theorem d_P_strokesFor_29 : decode b_P_strokesFor 29 = .ok (.iaload, 1) := by decide +kernel
theorem d_P_strokesFor_30 : decode b_P_strokesFor 30 = .ok (.aload_n 0, 1) := by decide +kernel
theorem d_P_strokesFor_31 : decode b_P_strokesFor 31 = .ok (.getfield 29, 3) := by decide +kernel
theorem d_P_strokesFor_34 : decode b_P_strokesFor 34 = .ok (.iload 4, 2) := by decide +kernel
theorem d_P_strokesFor_36 : decode b_P_strokesFor 36 = .ok (.iload_n 1, 1) := by decide +kernel
theorem d_P_strokesFor_37 : decode b_P_strokesFor 37 = .ok (.iload_n 2, 1) := by decide +kernel
theorem d_P_strokesFor_38 : decode b_P_strokesFor 38 = .ok (.invokevirtual 72, 3) := by decide +kernel
theorem d_P_strokesFor_41 : decode b_P_strokesFor 41 = .ok (.invokevirtual 76, 3) := by decide +kernel
theorem d_P_strokesFor_44 : decode b_P_strokesFor 44 = .ok (.istore 5, 2) := by decide +kernel
theorem d_P_strokesFor_46 : decode b_P_strokesFor 46 = .ok (.iload 5, 2) := by decide +kernel
theorem d_P_strokesFor_48 : decode b_P_strokesFor 48 = .ok (.bipush 10, 2) := by decide +kernel
theorem d_P_strokesFor_50 : decode b_P_strokesFor 50 = .ok (.if_icmp .ne 5, 3) := by decide +kernel
theorem d_P_strokesFor_53 : decode b_P_strokesFor 53 = .ok (.iconst (-1), 1) := by decide +kernel
theorem d_P_strokesFor_54 : decode b_P_strokesFor 54 = .ok (.ireturn, 1) := by decide +kernel
theorem d_P_strokesFor_55 : decode b_P_strokesFor 55 = .ok (.iload_n 3, 1) := by decide +kernel
theorem d_P_strokesFor_56 : decode b_P_strokesFor 56 = .ok (.iload 5, 2) := by decide +kernel
theorem d_P_strokesFor_58 : decode b_P_strokesFor 58 = .ok (.aload_n 0, 1) := by decide +kernel
theorem d_P_strokesFor_59 : decode b_P_strokesFor 59 = .ok (.getfield 25, 3) := by decide +kernel
theorem d_P_strokesFor_62 : decode b_P_strokesFor 62 = .ok (.getfield 69, 3) := by decide +kernel
theorem d_P_strokesFor_65 : decode b_P_strokesFor 65 = .ok (.iload 4, 2) := by decide +kernel
theorem d_P_strokesFor_67 : decode b_P_strokesFor 67 = .ok (.iaload, 1) := by decide +kernel
theorem d_P_strokesFor_68 : decode b_P_strokesFor 68 = .ok (.isub, 1) := by decide +kernel
theorem d_P_strokesFor_69 : decode b_P_strokesFor 69 = .ok (.iadd, 1) := by decide +kernel
theorem d_P_strokesFor_70 : decode b_P_strokesFor 70 = .ok (.istore_n 3, 1) := by decide +kernel
theorem d_P_strokesFor_71 : decode b_P_strokesFor 71 = .ok (.iinc 4 1, 3) := by decide +kernel
theorem d_P_strokesFor_74 : decode b_P_strokesFor 74 = .ok (.goto (-69), 3) := by decide +kernel
theorem d_P_strokesFor_77 : decode b_P_strokesFor 77 = .ok (.iload_n 3, 1) := by decide +kernel
theorem d_P_strokesFor_78 : decode b_P_strokesFor 78 = .ok (.ireturn, 1) := by decide +kernel
theorem d_T_strokes_0 : decode b_T_strokes 0 = .ok (.iload_n 1, 1) := by decide +kernel
theorem d_T_strokes_1 : decode b_T_strokes 1 = .ok (.iload_n 2, 1) := by decide +kernel
theorem d_T_strokes_2 : decode b_T_strokes 2 = .ok (.invokestatic 153, 3) := by decide +kernel
theorem d_T_strokes_5 : decode b_T_strokes 5 = .ok (.ifCond .eq 19, 3) := by decide +kernel
theorem d_T_strokes_8 : decode b_T_strokes 8 = .ok (.iload_n 3, 1) := by decide +kernel
theorem d_T_strokes_9 : decode b_T_strokes 9 = .ok (.iconst (-1), 1) := by decide +kernel
theorem d_T_strokes_10 : decode b_T_strokes 10 = .ok (.if_icmp .eq 21, 3) := by decide +kernel
theorem d_T_strokes_13 : decode b_T_strokes 13 = .ok (.aload_n 0, 1) := by decide +kernel
theorem d_T_strokes_14 : decode b_T_strokes 14 = .ok (.getfield 10, 3) := by decide +kernel
theorem d_T_strokes_17 : decode b_T_strokes 17 = .ok (.iload_n 3, 1) := by decide +kernel
theorem d_T_strokes_18 : decode b_T_strokes 18 = .ok (.invokevirtual 177, 3) := by decide +kernel
theorem d_T_strokes_21 : decode b_T_strokes 21 = .ok (.ifCond .ne 10, 3) := by decide +kernel
theorem d_T_strokes_24 : decode b_T_strokes 24 = .ok (.aload_n 0, 1) := by decide +kernel
theorem d_T_strokes_25 : decode b_T_strokes 25 = .ok (.bipush (-10), 2) := by decide +kernel
theorem d_T_strokes_27 : decode b_T_strokes 27 = .ok (.invokevirtual 78, 3) := by decide +kernel
theorem d_T_strokes_30 : decode b_T_strokes 30 = .ok (.ireturn, 1) := by decide +kernel
theorem d_T_strokes_31 : decode b_T_strokes 31 = .ok (.aload_n 0, 1) := by decide +kernel
theorem d_T_strokes_32 : decode b_T_strokes 32 = .ok (.invokevirtual 165, 3) := by decide +kernel
theorem d_T_strokes_35 : decode b_T_strokes 35 = .ok (.pop, 1) := by decide +kernel
theorem d_T_strokes_36 : decode b_T_strokes 36 = .ok (.aload_n 0, 1) := by decide +kernel
theorem d_T_strokes_37 : decode b_T_strokes 37 = .ok (.getfield 30, 3) := by decide +kernel
theorem d_T_strokes_40 : decode b_T_strokes 40 = .ok (.iload_n 1, 1) := by decide +kernel
theorem d_T_strokes_41 : decode b_T_strokes 41 = .ok (.iload_n 2, 1) := by decide +kernel
theorem d_T_strokes_42 : decode b_T_strokes 42 = .ok (.invokevirtual 234, 3) := by decide +kernel
theorem d_T_strokes_45 : decode b_T_strokes 45 = .ok (.istore 4, 2) := by decide +kernel
theorem d_T_strokes_47 : decode b_T_strokes 47 = .ok (.iload 4, 2) := by decide +kernel
theorem d_T_strokes_49 : decode b_T_strokes 49 = .ok (.iconst (-1), 1) := by decide +kernel
theorem d_T_strokes_50 : decode b_T_strokes 50 = .ok (.if_icmp .eq 8, 3) := by decide +kernel
theorem d_T_strokes_53 : decode b_T_strokes 53 = .ok (.iload_n 3, 1) := by decide +kernel
theorem d_T_strokes_54 : decode b_T_strokes 54 = .ok (.iconst (-1), 1) := by decide +kernel
theorem d_T_strokes_55 : decode b_T_strokes 55 = .ok (.if_icmp .ne 6, 3) := by decide +kernel
theorem d_T_strokes_58 : decode b_T_strokes 58 = .ok (.iload 4, 2) := by decide +kernel
theorem d_T_strokes_60 : decode b_T_strokes 60 = .ok (.ireturn, 1) := by decide +kernel
theorem d_T_strokes_61 : decode b_T_strokes 61 = .ok (.aload_n 0, 1) := by decide +kernel
theorem d_T_strokes_62 : decode b_T_strokes 62 = .ok (.getfield 30, 3) := by decide +kernel
theorem d_T_strokes_65 : decode b_T_strokes 65 = .ok (.iload_n 3, 1) := by decide +kernel
theorem d_T_strokes_66 : decode b_T_strokes 66 = .ok (.aload_n 0, 1) := by decide +kernel
theorem d_T_strokes_67 : decode b_T_strokes 67 = .ok (.getfield 10, 3) := by decide +kernel
theorem d_T_strokes_70 : decode b_T_strokes 70 = .ok (.getfield 191, 3) := by decide +kernel
theorem d_T_strokes_73 : decode b_T_strokes 73 = .ok (.iload_n 3, 1) := by decide +kernel
theorem d_T_strokes_74 : decode b_T_strokes 74 = .ok (.iaload, 1) := by decide +kernel
theorem d_T_strokes_75 : decode b_T_strokes 75 = .ok (.aload_n 0, 1) := by decide +kernel
theorem d_T_strokes_76 : decode b_T_strokes 76 = .ok (.getfield 21, 3) := by decide +kernel
theorem d_T_strokes_79 : decode b_T_strokes 79 = .ok (.iload_n 3, 1) := by decide +kernel
theorem d_T_strokes_80 : decode b_T_strokes 80 = .ok (.iload_n 1, 1) := by decide +kernel
theorem d_T_strokes_81 : decode b_T_strokes 81 = .ok (.iload_n 2, 1) := by decide +kernel
theorem d_T_strokes_82 : decode b_T_strokes 82 = .ok (.invokevirtual 203, 3) := by decide +kernel
theorem d_T_strokes_85 : decode b_T_strokes 85 = .ok (.invokevirtual 237, 3) := by decide +kernel
theorem d_T_strokes_88 : decode b_T_strokes 88 = .ok (.ireturn, 1) := by decide +kernel
theorem d_F_allChances_0 : decode b_F_allChances 0 = .ok (.iconst 0, 1) := by decide +kernel
theorem d_F_allChances_1 : decode b_F_allChances 1 = .ok (.istore_n 1, 1) := by decide +kernel
theorem d_F_allChances_2 : decode b_F_allChances 2 = .ok (.iconst 0, 1) := by decide +kernel
theorem d_F_allChances_3 : decode b_F_allChances 3 = .ok (.istore_n 2, 1) := by decide +kernel
theorem d_F_allChances_4 : decode b_F_allChances 4 = .ok (.iload_n 2, 1) := by decide +kernel
theorem d_F_allChances_5 : decode b_F_allChances 5 = .ok (.bipush 8, 2) := by decide +kernel
theorem d_F_allChances_7 : decode b_F_allChances 7 = .ok (.if_icmp .ge 18, 3) := by decide +kernel
theorem d_F_allChances_10 : decode b_F_allChances 10 = .ok (.iload_n 1, 1) := by decide +kernel
theorem d_F_allChances_11 : decode b_F_allChances 11 = .ok (.aload_n 0, 1) := by decide +kernel
theorem d_F_allChances_12 : decode b_F_allChances 12 = .ok (.getfield 21, 3) := by decide +kernel
theorem d_F_allChances_15 : decode b_F_allChances 15 = .ok (.iload_n 2, 1) := by decide +kernel
theorem d_F_allChances_16 : decode b_F_allChances 16 = .ok (.iaload, 1) := by decide +kernel
theorem d_F_allChances_17 : decode b_F_allChances 17 = .ok (.iadd, 1) := by decide +kernel
theorem d_F_allChances_18 : decode b_F_allChances 18 = .ok (.istore_n 1, 1) := by decide +kernel
theorem d_F_allChances_19 : decode b_F_allChances 19 = .ok (.iinc 2 1, 3) := by decide +kernel
theorem d_F_allChances_22 : decode b_F_allChances 22 = .ok (.goto (-18), 3) := by decide +kernel
theorem d_F_allChances_25 : decode b_F_allChances 25 = .ok (.iload_n 1, 1) := by decide +kernel
theorem d_F_allChances_26 : decode b_F_allChances 26 = .ok (.ireturn, 1) := by decide +kernel
theorem d_G_takesNone_0 : decode b_G_takesNone 0 = .ok (.iconst 0, 1) := by decide +kernel
theorem d_G_takesNone_1 : decode b_G_takesNone 1 = .ok (.istore_n 3, 1) := by decide +kernel
theorem d_G_takesNone_2 : decode b_G_takesNone 2 = .ok (.iload_n 3, 1) := by decide +kernel
theorem d_G_takesNone_3 : decode b_G_takesNone 3 = .ok (.aload_n 0, 1) := by decide +kernel
theorem d_G_takesNone_4 : decode b_G_takesNone 4 = .ok (.getfield 34, 3) := by decide +kernel
theorem d_G_takesNone_7 : decode b_G_takesNone 7 = .ok (.getfield 42, 3) := by decide +kernel
theorem d_G_takesNone_10 : decode b_G_takesNone 10 = .ok (.if_icmp .ge 37, 3) := by decide +kernel
theorem d_G_takesNone_13 : decode b_G_takesNone 13 = .ok (.aload_n 0, 1) := by decide +kernel
theorem d_G_takesNone_14 : decode b_G_takesNone 14 = .ok (.getfield 22, 3) := by decide +kernel
theorem d_G_takesNone_17 : decode b_G_takesNone 17 = .ok (.iload_n 3, 1) := by decide +kernel
theorem d_G_takesNone_18 : decode b_G_takesNone 18 = .ok (.invokestatic 63, 3) := by decide +kernel
theorem d_G_takesNone_21 : decode b_G_takesNone 21 = .ok (.ifCond .eq 20, 3) := by decide +kernel
theorem d_G_takesNone_24 : decode b_G_takesNone 24 = .ok (.aload_n 0, 1) := by decide +kernel
theorem d_G_takesNone_25 : decode b_G_takesNone 25 = .ok (.iload_n 3, 1) := by decide +kernel
theorem d_G_takesNone_26 : decode b_G_takesNone 26 = .ok (.iload_n 1, 1) := by decide +kernel
theorem d_G_takesNone_27 : decode b_G_takesNone 27 = .ok (.iload_n 2, 1) := by decide +kernel
theorem d_G_takesNone_28 : decode b_G_takesNone 28 = .ok (.invokevirtual 95, 3) := by decide +kernel
theorem d_G_takesNone_31 : decode b_G_takesNone 31 = .ok (.aload_n 0, 1) := by decide +kernel
theorem d_G_takesNone_32 : decode b_G_takesNone 32 = .ok (.iload_n 3, 1) := by decide +kernel
theorem d_G_takesNone_33 : decode b_G_takesNone 33 = .ok (.invokevirtual 99, 3) := by decide +kernel
theorem d_G_takesNone_36 : decode b_G_takesNone 36 = .ok (.if_icmp .le 5, 3) := by decide +kernel
theorem d_G_takesNone_39 : decode b_G_takesNone 39 = .ok (.iconst 0, 1) := by decide +kernel
theorem d_G_takesNone_40 : decode b_G_takesNone 40 = .ok (.ireturn, 1) := by decide +kernel
theorem d_G_takesNone_41 : decode b_G_takesNone 41 = .ok (.iinc 3 1, 3) := by decide +kernel
theorem d_G_takesNone_44 : decode b_G_takesNone 44 = .ok (.goto (-42), 3) := by decide +kernel
theorem d_G_takesNone_47 : decode b_G_takesNone 47 = .ok (.iconst 1, 1) := by decide +kernel
theorem d_G_takesNone_48 : decode b_G_takesNone 48 = .ok (.ireturn, 1) := by decide +kernel
theorem d_G_harmless_0 : decode b_G_harmless 0 = .ok (.iconst 0, 1) := by decide +kernel
theorem d_G_harmless_1 : decode b_G_harmless 1 = .ok (.istore_n 2, 1) := by decide +kernel
theorem d_G_harmless_2 : decode b_G_harmless 2 = .ok (.iconst 0, 1) := by decide +kernel
theorem d_G_harmless_3 : decode b_G_harmless 3 = .ok (.istore_n 3, 1) := by decide +kernel
theorem d_G_harmless_4 : decode b_G_harmless 4 = .ok (.iload_n 3, 1) := by decide +kernel
theorem d_G_harmless_5 : decode b_G_harmless 5 = .ok (.bipush 8, 2) := by decide +kernel
theorem d_G_harmless_7 : decode b_G_harmless 7 = .ok (.if_icmp .ge 30, 3) := by decide +kernel
theorem d_G_harmless_10 : decode b_G_harmless 10 = .ok (.aload_n 0, 1) := by decide +kernel
theorem d_G_harmless_11 : decode b_G_harmless 11 = .ok (.iload_n 3, 1) := by decide +kernel
theorem d_G_harmless_12 : decode b_G_harmless 12 = .ok (.iload_n 1, 1) := by decide +kernel
theorem d_G_harmless_13 : decode b_G_harmless 13 = .ok (.invokevirtual 126, 3) := by decide +kernel
theorem d_G_harmless_16 : decode b_G_harmless 16 = .ok (.ifCond .eq 15, 3) := by decide +kernel
theorem d_G_harmless_19 : decode b_G_harmless 19 = .ok (.iload_n 2, 1) := by decide +kernel
theorem d_G_harmless_20 : decode b_G_harmless 20 = .ok (.aload_n 0, 1) := by decide +kernel
theorem d_G_harmless_21 : decode b_G_harmless 21 = .ok (.getfield 34, 3) := by decide +kernel
theorem d_G_harmless_24 : decode b_G_harmless 24 = .ok (.getfield 129, 3) := by decide +kernel
theorem d_G_harmless_27 : decode b_G_harmless 27 = .ok (.iload_n 3, 1) := by decide +kernel
theorem d_G_harmless_28 : decode b_G_harmless 28 = .ok (.iaload, 1) := by decide +kernel
theorem d_G_harmless_29 : decode b_G_harmless 29 = .ok (.iadd, 1) := by decide +kernel
theorem d_G_harmless_30 : decode b_G_harmless 30 = .ok (.istore_n 2, 1) := by decide +kernel
theorem d_G_harmless_31 : decode b_G_harmless 31 = .ok (.iinc 3 1, 3) := by decide +kernel
theorem d_G_harmless_34 : decode b_G_harmless 34 = .ok (.goto (-30), 3) := by decide +kernel
theorem d_G_harmless_37 : decode b_G_harmless 37 = .ok (.iload_n 2, 1) := by decide +kernel
theorem d_G_harmless_38 : decode b_G_harmless 38 = .ok (.ireturn, 1) := by decide +kernel
theorem d_T_keepFraction_0 : decode b_T_keepFraction 0 = .ok (.aload_n 0, 1) := by decide +kernel
theorem d_T_keepFraction_1 : decode b_T_keepFraction 1 = .ok (.iload_n 1, 1) := by decide +kernel
theorem d_T_keepFraction_2 : decode b_T_keepFraction 2 = .ok (.putfield 59, 3) := by decide +kernel
theorem d_T_keepFraction_5 : decode b_T_keepFraction 5 = .ok (.aload_n 0, 1) := by decide +kernel
theorem d_T_keepFraction_6 : decode b_T_keepFraction 6 = .ok (.iload_n 2, 1) := by decide +kernel
theorem d_T_keepFraction_7 : decode b_T_keepFraction 7 = .ok (.putfield 62, 3) := by decide +kernel
theorem d_T_keepFraction_10 : decode b_T_keepFraction 10 = .ok (.iload_n 2, 1) := by decide +kernel
theorem d_T_keepFraction_11 : decode b_T_keepFraction 11 = .ok (.istore_n 3, 1) := by decide +kernel
theorem d_T_keepFraction_12 : decode b_T_keepFraction 12 = .ok (.iload_n 3, 1) := by decide +kernel
theorem d_T_keepFraction_13 : decode b_T_keepFraction 13 = .ok (.iconst 1, 1) := by decide +kernel
theorem d_T_keepFraction_14 : decode b_T_keepFraction 14 = .ok (.if_icmp .le 36, 3) := by decide +kernel
theorem d_T_keepFraction_17 : decode b_T_keepFraction 17 = .ok (.iload_n 1, 1) := by decide +kernel
theorem d_T_keepFraction_18 : decode b_T_keepFraction 18 = .ok (.iload_n 3, 1) := by decide +kernel
theorem d_T_keepFraction_19 : decode b_T_keepFraction 19 = .ok (.irem, 1) := by decide +kernel
theorem d_T_keepFraction_20 : decode b_T_keepFraction 20 = .ok (.ifCond .ne 24, 3) := by decide +kernel
theorem d_T_keepFraction_23 : decode b_T_keepFraction 23 = .ok (.iload_n 2, 1) := by decide +kernel
theorem d_T_keepFraction_24 : decode b_T_keepFraction 24 = .ok (.iload_n 3, 1) := by decide +kernel
theorem d_T_keepFraction_25 : decode b_T_keepFraction 25 = .ok (.irem, 1) := by decide +kernel
theorem d_T_keepFraction_26 : decode b_T_keepFraction 26 = .ok (.ifCond .ne 18, 3) := by decide +kernel
theorem d_T_keepFraction_29 : decode b_T_keepFraction 29 = .ok (.aload_n 0, 1) := by decide +kernel
theorem d_T_keepFraction_30 : decode b_T_keepFraction 30 = .ok (.iload_n 1, 1) := by decide +kernel
theorem d_T_keepFraction_31 : decode b_T_keepFraction 31 = .ok (.iload_n 3, 1) := by decide +kernel
theorem d_T_keepFraction_32 : decode b_T_keepFraction 32 = .ok (.idiv, 1) := by decide +kernel
theorem d_T_keepFraction_33 : decode b_T_keepFraction 33 = .ok (.putfield 59, 3) := by decide +kernel
theorem d_T_keepFraction_36 : decode b_T_keepFraction 36 = .ok (.aload_n 0, 1) := by decide +kernel
theorem d_T_keepFraction_37 : decode b_T_keepFraction 37 = .ok (.iload_n 2, 1) := by decide +kernel
theorem d_T_keepFraction_38 : decode b_T_keepFraction 38 = .ok (.iload_n 3, 1) := by decide +kernel
theorem d_T_keepFraction_39 : decode b_T_keepFraction 39 = .ok (.idiv, 1) := by decide +kernel
theorem d_T_keepFraction_40 : decode b_T_keepFraction 40 = .ok (.putfield 62, 3) := by decide +kernel
theorem d_T_keepFraction_43 : decode b_T_keepFraction 43 = .ok (.return_, 1) := by decide +kernel
theorem d_T_keepFraction_44 : decode b_T_keepFraction 44 = .ok (.iinc 3 (-1), 3) := by decide +kernel
theorem d_T_keepFraction_47 : decode b_T_keepFraction 47 = .ok (.goto (-35), 3) := by decide +kernel
theorem d_T_keepFraction_50 : decode b_T_keepFraction 50 = .ok (.return_, 1) := by decide +kernel
theorem d_T_chance_0 : decode b_T_chance 0 = .ok (.iload_n 1, 1) := by decide +kernel
theorem d_T_chance_1 : decode b_T_chance 1 = .ok (.invokestatic 240, 3) := by decide +kernel
theorem d_T_chance_4 : decode b_T_chance 4 = .ok (.ifCond .ne 10, 3) := by decide +kernel
theorem d_T_chance_7 : decode b_T_chance 7 = .ok (.aload_n 0, 1) := by decide +kernel
theorem d_T_chance_8 : decode b_T_chance 8 = .ok (.bipush (-2), 2) := by decide +kernel
theorem d_T_chance_10 : decode b_T_chance 10 = .ok (.invokevirtual 78, 3) := by decide +kernel
theorem d_T_chance_13 : decode b_T_chance 13 = .ok (.ireturn, 1) := by decide +kernel
theorem d_T_chance_14 : decode b_T_chance 14 = .ok (.aload_n 0, 1) := by decide +kernel
theorem d_T_chance_15 : decode b_T_chance 15 = .ok (.getfield 10, 3) := by decide +kernel
theorem d_T_chance_18 : decode b_T_chance 18 = .ok (.invokevirtual 243, 3) := by decide +kernel
theorem d_T_chance_21 : decode b_T_chance 21 = .ok (.istore_n 2, 1) := by decide +kernel
theorem d_T_chance_22 : decode b_T_chance 22 = .ok (.iload_n 2, 1) := by decide +kernel
theorem d_T_chance_23 : decode b_T_chance 23 = .ok (.ifCond .ne 8, 3) := by decide +kernel
theorem d_T_chance_26 : decode b_T_chance 26 = .ok (.aload_n 0, 1) := by decide +kernel
theorem d_T_chance_27 : decode b_T_chance 27 = .ok (.invokevirtual 113, 3) := by decide +kernel
theorem d_T_chance_30 : decode b_T_chance 30 = .ok (.ireturn, 1) := by decide +kernel
theorem d_T_chance_31 : decode b_T_chance 31 = .ok (.aload_n 0, 1) := by decide +kernel
theorem d_T_chance_32 : decode b_T_chance 32 = .ok (.aload_n 0, 1) := by decide +kernel
theorem d_T_chance_33 : decode b_T_chance 33 = .ok (.invokevirtual 165, 3) := by decide +kernel
theorem d_T_chance_36 : decode b_T_chance 36 = .ok (.iload_n 1, 1) := by decide +kernel
theorem d_T_chance_37 : decode b_T_chance 37 = .ok (.invokevirtual 246, 3) := by decide +kernel
theorem d_T_chance_40 : decode b_T_chance 40 = .ok (.iload_n 2, 1) := by decide +kernel
theorem d_T_chance_41 : decode b_T_chance 41 = .ok (.invokevirtual 249, 3) := by decide +kernel
theorem d_T_chance_44 : decode b_T_chance 44 = .ok (.iconst 1, 1) := by decide +kernel
theorem d_T_chance_45 : decode b_T_chance 45 = .ok (.ireturn, 1) := by decide +kernel
theorem d_P_bestTurn_0 : decode b_P_bestTurn 0 = .ok (.iconst 0, 1) := by decide +kernel
theorem d_P_bestTurn_1 : decode b_P_bestTurn 1 = .ok (.istore_n 2, 1) := by decide +kernel
theorem d_P_bestTurn_2 : decode b_P_bestTurn 2 = .ok (.iconst (-1), 1) := by decide +kernel
theorem d_P_bestTurn_3 : decode b_P_bestTurn 3 = .ok (.istore_n 3, 1) := by decide +kernel
theorem d_P_bestTurn_4 : decode b_P_bestTurn 4 = .ok (.iconst 0, 1) := by decide +kernel
theorem d_P_bestTurn_5 : decode b_P_bestTurn 5 = .ok (.istore 4, 2) := by decide +kernel
theorem d_P_bestTurn_7 : decode b_P_bestTurn 7 = .ok (.iload 4, 2) := by decide +kernel
theorem d_P_bestTurn_9 : decode b_P_bestTurn 9 = .ok (.bipush 8, 2) := by decide +kernel
theorem d_P_bestTurn_11 : decode b_P_bestTurn 11 = .ok (.if_icmp .ge 40, 3) := by decide +kernel
theorem d_P_bestTurn_14 : decode b_P_bestTurn 14 = .ok (.aload_n 0, 1) := by decide +kernel
theorem d_P_bestTurn_15 : decode b_P_bestTurn 15 = .ok (.getfield 29, 3) := by decide +kernel
theorem d_P_bestTurn_18 : decode b_P_bestTurn 18 = .ok (.iload 4, 2) := by decide +kernel
theorem d_P_bestTurn_20 : decode b_P_bestTurn 20 = .ok (.putfield 79, 3) := by decide +kernel
theorem d_P_bestTurn_23 : decode b_P_bestTurn 23 = .ok (.aload_n 0, 1) := by decide +kernel
theorem d_P_bestTurn_24 : decode b_P_bestTurn 24 = .ok (.getfield 29, 3) := by decide +kernel
theorem d_P_bestTurn_27 : decode b_P_bestTurn 27 = .ok (.iload_n 1, 1) := by decide +kernel
theorem d_P_bestTurn_28 : decode b_P_bestTurn 28 = .ok (.invokevirtual 82, 3) := by decide +kernel
theorem d_P_bestTurn_31 : decode b_P_bestTurn 31 = .ok (.istore 5, 2) := by decide +kernel
theorem d_P_bestTurn_33 : decode b_P_bestTurn 33 = .ok (.iload 5, 2) := by decide +kernel
theorem d_P_bestTurn_35 : decode b_P_bestTurn 35 = .ok (.iload_n 3, 1) := by decide +kernel
theorem d_P_bestTurn_36 : decode b_P_bestTurn 36 = .ok (.if_icmp .le 9, 3) := by decide +kernel
theorem d_P_bestTurn_39 : decode b_P_bestTurn 39 = .ok (.iload 4, 2) := by decide +kernel
theorem d_P_bestTurn_41 : decode b_P_bestTurn 41 = .ok (.istore_n 2, 1) := by decide +kernel
theorem d_P_bestTurn_42 : decode b_P_bestTurn 42 = .ok (.iload 5, 2) := by decide +kernel
theorem d_P_bestTurn_44 : decode b_P_bestTurn 44 = .ok (.istore_n 3, 1) := by decide +kernel
theorem d_P_bestTurn_45 : decode b_P_bestTurn 45 = .ok (.iinc 4 1, 3) := by decide +kernel
theorem d_P_bestTurn_48 : decode b_P_bestTurn 48 = .ok (.goto (-41), 3) := by decide +kernel
theorem d_P_bestTurn_51 : decode b_P_bestTurn 51 = .ok (.iload_n 2, 1) := by decide +kernel
theorem d_P_bestTurn_52 : decode b_P_bestTurn 52 = .ok (.ireturn, 1) := by decide +kernel
theorem d_T_turn_0 : decode b_T_turn 0 = .ok (.iload_n 1, 1) := by decide +kernel
theorem d_T_turn_1 : decode b_T_turn 1 = .ok (.invokestatic 240, 3) := by decide +kernel
theorem d_T_turn_4 : decode b_T_turn 4 = .ok (.ifCond .ne 10, 3) := by decide +kernel
theorem d_T_turn_7 : decode b_T_turn 7 = .ok (.aload_n 0, 1) := by decide +kernel
theorem d_T_turn_8 : decode b_T_turn 8 = .ok (.bipush (-2), 2) := by decide +kernel
theorem d_T_turn_10 : decode b_T_turn 10 = .ok (.invokevirtual 78, 3) := by decide +kernel
theorem d_T_turn_13 : decode b_T_turn 13 = .ok (.ireturn, 1) := by decide +kernel
theorem d_T_turn_14 : decode b_T_turn 14 = .ok (.aload_n 0, 1) := by decide +kernel
theorem d_T_turn_15 : decode b_T_turn 15 = .ok (.getfield 10, 3) := by decide +kernel
theorem d_T_turn_18 : decode b_T_turn 18 = .ok (.invokevirtual 243, 3) := by decide +kernel
theorem d_T_turn_21 : decode b_T_turn 21 = .ok (.istore_n 2, 1) := by decide +kernel
theorem d_T_turn_22 : decode b_T_turn 22 = .ok (.iload_n 2, 1) := by decide +kernel
theorem d_T_turn_23 : decode b_T_turn 23 = .ok (.ifCond .ne 8, 3) := by decide +kernel
theorem d_T_turn_26 : decode b_T_turn 26 = .ok (.aload_n 0, 1) := by decide +kernel
theorem d_T_turn_27 : decode b_T_turn 27 = .ok (.invokevirtual 113, 3) := by decide +kernel
theorem d_T_turn_30 : decode b_T_turn 30 = .ok (.ireturn, 1) := by decide +kernel
theorem d_T_turn_31 : decode b_T_turn 31 = .ok (.aload_n 0, 1) := by decide +kernel
theorem d_T_turn_32 : decode b_T_turn 32 = .ok (.invokevirtual 165, 3) := by decide +kernel
theorem d_T_turn_35 : decode b_T_turn 35 = .ok (.pop, 1) := by decide +kernel
theorem d_T_turn_36 : decode b_T_turn 36 = .ok (.aload_n 0, 1) := by decide +kernel
theorem d_T_turn_37 : decode b_T_turn 37 = .ok (.getfield 30, 3) := by decide +kernel
theorem d_T_turn_40 : decode b_T_turn 40 = .ok (.iload_n 1, 1) := by decide +kernel
theorem d_T_turn_41 : decode b_T_turn 41 = .ok (.invokevirtual 252, 3) := by decide +kernel
theorem d_T_turn_44 : decode b_T_turn 44 = .ok (.istore_n 3, 1) := by decide +kernel
theorem d_T_turn_45 : decode b_T_turn 45 = .ok (.aload_n 0, 1) := by decide +kernel
theorem d_T_turn_46 : decode b_T_turn 46 = .ok (.getfield 21, 3) := by decide +kernel
theorem d_T_turn_49 : decode b_T_turn 49 = .ok (.iload_n 3, 1) := by decide +kernel
theorem d_T_turn_50 : decode b_T_turn 50 = .ok (.putfield 255, 3) := by decide +kernel
theorem d_T_turn_53 : decode b_T_turn 53 = .ok (.aload_n 0, 1) := by decide +kernel
theorem d_T_turn_54 : decode b_T_turn 54 = .ok (.aload_n 0, 1) := by decide +kernel
theorem d_T_turn_55 : decode b_T_turn 55 = .ok (.getfield 21, 3) := by decide +kernel
theorem d_T_turn_58 : decode b_T_turn 58 = .ok (.iload_n 1, 1) := by decide +kernel
theorem d_T_turn_59 : decode b_T_turn 59 = .ok (.invokevirtual 246, 3) := by decide +kernel
theorem d_T_turn_62 : decode b_T_turn 62 = .ok (.iload_n 2, 1) := by decide +kernel
theorem d_T_turn_63 : decode b_T_turn 63 = .ok (.invokevirtual 249, 3) := by decide +kernel
theorem d_T_turn_66 : decode b_T_turn 66 = .ok (.iload_n 3, 1) := by decide +kernel
theorem d_T_turn_67 : decode b_T_turn 67 = .ok (.ireturn, 1) := by decide +kernel
theorem d_T_worth_0 : decode b_T_worth 0 = .ok (.iload_n 1, 1) := by decide +kernel
theorem d_T_worth_1 : decode b_T_worth 1 = .ok (.iload_n 2, 1) := by decide +kernel
theorem d_T_worth_2 : decode b_T_worth 2 = .ok (.invokestatic 153, 3) := by decide +kernel
theorem d_T_worth_5 : decode b_T_worth 5 = .ok (.ifCond .ne 10, 3) := by decide +kernel
theorem d_T_worth_8 : decode b_T_worth 8 = .ok (.aload_n 0, 1) := by decide +kernel
theorem d_T_worth_9 : decode b_T_worth 9 = .ok (.bipush (-2), 2) := by decide +kernel
theorem d_T_worth_11 : decode b_T_worth 11 = .ok (.invokevirtual 78, 3) := by decide +kernel
theorem d_T_worth_14 : decode b_T_worth 14 = .ok (.ireturn, 1) := by decide +kernel
theorem d_T_worth_15 : decode b_T_worth 15 = .ok (.aload_n 0, 1) := by decide +kernel
theorem d_T_worth_16 : decode b_T_worth 16 = .ok (.getfield 10, 3) := by decide +kernel
theorem d_T_worth_19 : decode b_T_worth 19 = .ok (.invokevirtual 243, 3) := by decide +kernel
theorem d_T_worth_22 : decode b_T_worth 22 = .ok (.istore_n 3, 1) := by decide +kernel
theorem d_T_worth_23 : decode b_T_worth 23 = .ok (.iload_n 3, 1) := by decide +kernel
theorem d_T_worth_24 : decode b_T_worth 24 = .ok (.ifCond .ne 8, 3) := by decide +kernel
theorem d_T_worth_27 : decode b_T_worth 27 = .ok (.aload_n 0, 1) := by decide +kernel
theorem d_T_worth_28 : decode b_T_worth 28 = .ok (.invokevirtual 113, 3) := by decide +kernel
theorem d_T_worth_31 : decode b_T_worth 31 = .ok (.ireturn, 1) := by decide +kernel
theorem d_T_worth_32 : decode b_T_worth 32 = .ok (.aload_n 0, 1) := by decide +kernel
theorem d_T_worth_33 : decode b_T_worth 33 = .ok (.invokevirtual 165, 3) := by decide +kernel
theorem d_T_worth_36 : decode b_T_worth 36 = .ok (.iload_n 2, 1) := by decide +kernel
theorem d_T_worth_37 : decode b_T_worth 37 = .ok (.invokevirtual 246, 3) := by decide +kernel
theorem d_T_worth_40 : decode b_T_worth 40 = .ok (.istore 4, 2) := by decide +kernel
theorem d_T_worth_42 : decode b_T_worth 42 = .ok (.aload_n 0, 1) := by decide +kernel
theorem d_T_worth_43 : decode b_T_worth 43 = .ok (.getfield 21, 3) := by decide +kernel
theorem d_T_worth_46 : decode b_T_worth 46 = .ok (.aload_n 0, 1) := by decide +kernel
theorem d_T_worth_47 : decode b_T_worth 47 = .ok (.getfield 21, 3) := by decide +kernel
theorem d_T_worth_50 : decode b_T_worth 50 = .ok (.getfield 258, 3) := by decide +kernel
theorem d_T_worth_53 : decode b_T_worth 53 = .ok (.iload_n 1, 1) := by decide +kernel
theorem d_T_worth_54 : decode b_T_worth 54 = .ok (.iconst 1, 1) := by decide +kernel
theorem d_T_worth_55 : decode b_T_worth 55 = .ok (.invokestatic 183, 3) := by decide +kernel
theorem d_T_worth_58 : decode b_T_worth 58 = .ok (.putfield 258, 3) := by decide +kernel
theorem d_T_worth_61 : decode b_T_worth 61 = .ok (.aload_n 0, 1) := by decide +kernel
theorem d_T_worth_62 : decode b_T_worth 62 = .ok (.aload_n 0, 1) := by decide +kernel
theorem d_T_worth_63 : decode b_T_worth 63 = .ok (.getfield 21, 3) := by decide +kernel
theorem d_T_worth_66 : decode b_T_worth 66 = .ok (.iload_n 2, 1) := by decide +kernel
theorem d_T_worth_67 : decode b_T_worth 67 = .ok (.invokevirtual 246, 3) := by decide +kernel
theorem d_T_worth_70 : decode b_T_worth 70 = .ok (.iload 4, 2) := by decide +kernel
theorem d_T_worth_72 : decode b_T_worth 72 = .ok (.isub, 1) := by decide +kernel
theorem d_T_worth_73 : decode b_T_worth 73 = .ok (.iload_n 3, 1) := by decide +kernel
theorem d_T_worth_74 : decode b_T_worth 74 = .ok (.invokevirtual 249, 3) := by decide +kernel
theorem d_T_worth_77 : decode b_T_worth 77 = .ok (.iconst 1, 1) := by decide +kernel
theorem d_T_worth_78 : decode b_T_worth 78 = .ok (.ireturn, 1) := by decide +kernel
theorem d_P_ordersWithOneMore_0 : decode b_P_ordersWithOneMore 0 = .ok (.iconst 0, 1) := by decide +kernel
theorem d_P_ordersWithOneMore_1 : decode b_P_ordersWithOneMore 1 = .ok (.istore_n 2, 1) := by decide +kernel
theorem d_P_ordersWithOneMore_2 : decode b_P_ordersWithOneMore 2 = .ok (.iconst 0, 1) := by decide +kernel
theorem d_P_ordersWithOneMore_3 : decode b_P_ordersWithOneMore 3 = .ok (.istore_n 3, 1) := by decide +kernel
theorem d_P_ordersWithOneMore_4 : decode b_P_ordersWithOneMore 4 = .ok (.iload_n 3, 1) := by decide +kernel
theorem d_P_ordersWithOneMore_5 : decode b_P_ordersWithOneMore 5 = .ok (.aload_n 0, 1) := by decide +kernel
theorem d_P_ordersWithOneMore_6 : decode b_P_ordersWithOneMore 6 = .ok (.getfield 25, 3) := by decide +kernel
theorem d_P_ordersWithOneMore_9 : decode b_P_ordersWithOneMore 9 = .ok (.getfield 37, 3) := by decide +kernel
theorem d_P_ordersWithOneMore_12 : decode b_P_ordersWithOneMore 12 = .ok (.if_icmp .ge 30, 3) := by decide +kernel
theorem d_P_ordersWithOneMore_15 : decode b_P_ordersWithOneMore 15 = .ok (.iload_n 1, 1) := by decide +kernel
theorem d_P_ordersWithOneMore_16 : decode b_P_ordersWithOneMore 16 = .ok (.iload_n 3, 1) := by decide +kernel
theorem d_P_ordersWithOneMore_17 : decode b_P_ordersWithOneMore 17 = .ok (.invokestatic 33, 3) := by decide +kernel
theorem d_P_ordersWithOneMore_20 : decode b_P_ordersWithOneMore 20 = .ok (.ifCond .ne 16, 3) := by decide +kernel
theorem d_P_ordersWithOneMore_23 : decode b_P_ordersWithOneMore 23 = .ok (.iload_n 2, 1) := by decide +kernel
theorem d_P_ordersWithOneMore_24 : decode b_P_ordersWithOneMore 24 = .ok (.aload_n 0, 1) := by decide +kernel
theorem d_P_ordersWithOneMore_25 : decode b_P_ordersWithOneMore 25 = .ok (.getfield 9, 3) := by decide +kernel
theorem d_P_ordersWithOneMore_28 : decode b_P_ordersWithOneMore 28 = .ok (.iload_n 1, 1) := by decide +kernel
theorem d_P_ordersWithOneMore_29 : decode b_P_ordersWithOneMore 29 = .ok (.iconst 1, 1) := by decide +kernel
theorem d_P_ordersWithOneMore_30 : decode b_P_ordersWithOneMore 30 = .ok (.iload_n 3, 1) := by decide +kernel
theorem d_P_ordersWithOneMore_31 : decode b_P_ordersWithOneMore 31 = .ok (.ishl, 1) := by decide +kernel
theorem d_P_ordersWithOneMore_32 : decode b_P_ordersWithOneMore 32 = .ok (.ior, 1) := by decide +kernel
theorem d_P_ordersWithOneMore_33 : decode b_P_ordersWithOneMore 33 = .ok (.iaload, 1) := by decide +kernel
theorem d_P_ordersWithOneMore_34 : decode b_P_ordersWithOneMore 34 = .ok (.iadd, 1) := by decide +kernel
theorem d_P_ordersWithOneMore_35 : decode b_P_ordersWithOneMore 35 = .ok (.istore_n 2, 1) := by decide +kernel
theorem d_P_ordersWithOneMore_36 : decode b_P_ordersWithOneMore 36 = .ok (.iinc 3 1, 3) := by decide +kernel
theorem d_P_ordersWithOneMore_39 : decode b_P_ordersWithOneMore 39 = .ok (.goto (-35), 3) := by decide +kernel
theorem d_P_ordersWithOneMore_42 : decode b_P_ordersWithOneMore 42 = .ok (.iload_n 2, 1) := by decide +kernel
theorem d_P_ordersWithOneMore_43 : decode b_P_ordersWithOneMore 43 = .ok (.ireturn, 1) := by decide +kernel
theorem d_P_countOrders_0 : decode b_P_countOrders 0 = .ok (.iconst 1, 1) := by decide +kernel
theorem d_P_countOrders_1 : decode b_P_countOrders 1 = .ok (.aload_n 0, 1) := by decide +kernel
theorem d_P_countOrders_2 : decode b_P_countOrders 2 = .ok (.getfield 25, 3) := by decide +kernel
theorem d_P_countOrders_5 : decode b_P_countOrders 5 = .ok (.getfield 37, 3) := by decide +kernel
theorem d_P_countOrders_8 : decode b_P_countOrders 8 = .ok (.ishl, 1) := by decide +kernel
theorem d_P_countOrders_9 : decode b_P_countOrders 9 = .ok (.iconst 1, 1) := by decide +kernel
theorem d_P_countOrders_10 : decode b_P_countOrders 10 = .ok (.isub, 1) := by decide +kernel
theorem d_P_countOrders_11 : decode b_P_countOrders 11 = .ok (.istore 4, 2) := by decide +kernel
theorem d_P_countOrders_13 : decode b_P_countOrders 13 = .ok (.iload 4, 2) := by decide +kernel
theorem d_P_countOrders_15 : decode b_P_countOrders 15 = .ok (.istore 5, 2) := by decide +kernel
theorem d_P_countOrders_17 : decode b_P_countOrders 17 = .ok (.iload 5, 2) := by decide +kernel
theorem d_P_countOrders_19 : decode b_P_countOrders 19 = .ok (.ifCond .lt 109, 3) := by decide +kernel
theorem d_P_countOrders_22 : decode b_P_countOrders 22 = .ok (.iload 5, 2) := by decide +kernel
theorem d_P_countOrders_24 : decode b_P_countOrders 24 = .ok (.invokestatic 42, 3) := by decide +kernel
theorem d_P_countOrders_27 : decode b_P_countOrders 27 = .ok (.istore 6, 2) := by decide +kernel
theorem d_P_countOrders_29 : decode b_P_countOrders 29 = .ok (.iload 6, 2) := by decide +kernel
theorem d_P_countOrders_31 : decode b_P_countOrders 31 = .ok (.ifCond .le 10, 3) := by decide +kernel
theorem d_P_countOrders_34 : decode b_P_countOrders 34 = .ok (.iload 6, 2) := by decide +kernel
theorem d_P_countOrders_36 : decode b_P_countOrders 36 = .ok (.iload_n 1, 1) := by decide +kernel
theorem d_P_countOrders_37 : decode b_P_countOrders 37 = .ok (.irem, 1) := by decide +kernel
theorem d_P_countOrders_38 : decode b_P_countOrders 38 = .ok (.ifCond .eq 10, 3) := by decide +kernel
theorem d_P_countOrders_41 : decode b_P_countOrders 41 = .ok (.iload 5, 2) := by decide +kernel
theorem d_P_countOrders_43 : decode b_P_countOrders 43 = .ok (.iload 4, 2) := by decide +kernel
theorem d_P_countOrders_45 : decode b_P_countOrders 45 = .ok (.if_icmp .ne 7, 3) := by decide +kernel
theorem d_P_countOrders_48 : decode b_P_countOrders 48 = .ok (.iconst 1, 1) := by decide +kernel
theorem d_P_countOrders_49 : decode b_P_countOrders 49 = .ok (.goto 4, 3) := by decide +kernel
theorem d_P_countOrders_52 : decode b_P_countOrders 52 = .ok (.iconst 0, 1) := by decide +kernel
theorem d_P_countOrders_53 : decode b_P_countOrders 53 = .ok (.istore 7, 2) := by decide +kernel
theorem d_P_countOrders_55 : decode b_P_countOrders 55 = .ok (.aload_n 0, 1) := by decide +kernel
theorem d_P_countOrders_56 : decode b_P_countOrders 56 = .ok (.getfield 29, 3) := by decide +kernel
theorem d_P_countOrders_59 : decode b_P_countOrders 59 = .ok (.iload 5, 2) := by decide +kernel
theorem d_P_countOrders_61 : decode b_P_countOrders 61 = .ok (.putfield 48, 3) := by decide +kernel
theorem d_P_countOrders_64 : decode b_P_countOrders 64 = .ok (.iload 7, 2) := by decide +kernel
theorem d_P_countOrders_66 : decode b_P_countOrders 66 = .ok (.ifCond .eq 32, 3) := by decide +kernel
theorem d_P_countOrders_69 : decode b_P_countOrders 69 = .ok (.iload 6, 2) := by decide +kernel
theorem d_P_countOrders_71 : decode b_P_countOrders 71 = .ok (.iconst 1, 1) := by decide +kernel
theorem d_P_countOrders_72 : decode b_P_countOrders 72 = .ok (.if_icmp .eq 15, 3) := by decide +kernel
theorem d_P_countOrders_75 : decode b_P_countOrders 75 = .ok (.aload_n 0, 1) := by decide +kernel
theorem d_P_countOrders_76 : decode b_P_countOrders 76 = .ok (.getfield 29, 3) := by decide +kernel
theorem d_P_countOrders_79 : decode b_P_countOrders 79 = .ok (.iload_n 2, 1) := by decide +kernel
theorem d_P_countOrders_80 : decode b_P_countOrders 80 = .ok (.iload_n 3, 1) := by decide +kernel
theorem d_P_countOrders_81 : decode b_P_countOrders 81 = .ok (.invokevirtual 85, 3) := by decide +kernel
theorem d_P_countOrders_84 : decode b_P_countOrders 84 = .ok (.ifCond .ne 14, 3) := by decide +kernel
theorem d_P_countOrders_87 : decode b_P_countOrders 87 = .ok (.aload_n 0, 1) := by decide +kernel
theorem d_P_countOrders_88 : decode b_P_countOrders 88 = .ok (.getfield 9, 3) := by decide +kernel
theorem d_P_countOrders_91 : decode b_P_countOrders 91 = .ok (.iload 5, 2) := by decide +kernel
theorem d_P_countOrders_93 : decode b_P_countOrders 93 = .ok (.iconst 0, 1) := by decide +kernel
theorem d_P_countOrders_94 : decode b_P_countOrders 94 = .ok (.iastore, 1) := by decide +kernel
theorem d_P_countOrders_95 : decode b_P_countOrders 95 = .ok (.goto 27, 3) := by decide +kernel
theorem d_P_countOrders_98 : decode b_P_countOrders 98 = .ok (.aload_n 0, 1) := by decide +kernel
theorem d_P_countOrders_99 : decode b_P_countOrders 99 = .ok (.getfield 9, 3) := by decide +kernel
theorem d_P_countOrders_102 : decode b_P_countOrders 102 = .ok (.iload 5, 2) := by decide +kernel
theorem d_P_countOrders_104 : decode b_P_countOrders 104 = .ok (.iload 5, 2) := by decide +kernel
theorem d_P_countOrders_106 : decode b_P_countOrders 106 = .ok (.iload 4, 2) := by decide +kernel
theorem d_P_countOrders_108 : decode b_P_countOrders 108 = .ok (.if_icmp .ne 7, 3) := by decide +kernel
theorem d_P_countOrders_111 : decode b_P_countOrders 111 = .ok (.iconst 1, 1) := by decide +kernel
theorem d_P_countOrders_112 : decode b_P_countOrders 112 = .ok (.goto 9, 3) := by decide +kernel
theorem d_P_countOrders_115 : decode b_P_countOrders 115 = .ok (.aload_n 0, 1) := by decide +kernel
theorem d_P_countOrders_116 : decode b_P_countOrders 116 = .ok (.iload 5, 2) := by decide +kernel
theorem d_P_countOrders_118 : decode b_P_countOrders 118 = .ok (.invokevirtual 88, 3) := by decide +kernel
theorem d_P_countOrders_121 : decode b_P_countOrders 121 = .ok (.iastore, 1) := by decide +kernel
theorem d_P_countOrders_122 : decode b_P_countOrders 122 = .ok (.iinc 5 (-1), 3) := by decide +kernel
theorem d_P_countOrders_125 : decode b_P_countOrders 125 = .ok (.goto (-108), 3) := by decide +kernel
theorem d_P_countOrders_128 : decode b_P_countOrders 128 = .ok (.return_, 1) := by decide +kernel
theorem d_P_ordersFrom_0 : decode b_P_ordersFrom 0 = .ok (.aload_n 0, 1) := by decide +kernel
theorem d_P_ordersFrom_1 : decode b_P_ordersFrom 1 = .ok (.getfield 9, 3) := by decide +kernel
theorem d_P_ordersFrom_4 : decode b_P_ordersFrom 4 = .ok (.iload_n 1, 1) := by decide +kernel
theorem d_P_ordersFrom_5 : decode b_P_ordersFrom 5 = .ok (.iaload, 1) := by decide +kernel
theorem d_P_ordersFrom_6 : decode b_P_ordersFrom 6 = .ok (.ireturn, 1) := by decide +kernel
theorem d_P_leastThatMayFollow_0 : decode b_P_leastThatMayFollow 0 = .ok (.iconst 0, 1) := by decide +kernel
theorem d_P_leastThatMayFollow_1 : decode b_P_leastThatMayFollow 1 = .ok (.istore_n 2, 1) := by decide +kernel
theorem d_P_leastThatMayFollow_2 : decode b_P_leastThatMayFollow 2 = .ok (.iload_n 2, 1) := by decide +kernel
theorem d_P_leastThatMayFollow_3 : decode b_P_leastThatMayFollow 3 = .ok (.aload_n 0, 1) := by decide +kernel
theorem d_P_leastThatMayFollow_4 : decode b_P_leastThatMayFollow 4 = .ok (.getfield 25, 3) := by decide +kernel
theorem d_P_leastThatMayFollow_7 : decode b_P_leastThatMayFollow 7 = .ok (.getfield 37, 3) := by decide +kernel
theorem d_P_leastThatMayFollow_10 : decode b_P_leastThatMayFollow 10 = .ok (.if_icmp .ge 32, 3) := by decide +kernel
theorem d_P_leastThatMayFollow_13 : decode b_P_leastThatMayFollow 13 = .ok (.iload_n 1, 1) := by decide +kernel
theorem d_P_leastThatMayFollow_14 : decode b_P_leastThatMayFollow 14 = .ok (.iload_n 2, 1) := by decide +kernel
theorem d_P_leastThatMayFollow_15 : decode b_P_leastThatMayFollow 15 = .ok (.invokestatic 33, 3) := by decide +kernel
theorem d_P_leastThatMayFollow_18 : decode b_P_leastThatMayFollow 18 = .ok (.ifCond .ne 18, 3) := by decide +kernel
theorem d_P_leastThatMayFollow_21 : decode b_P_leastThatMayFollow 21 = .ok (.aload_n 0, 1) := by decide +kernel
theorem d_P_leastThatMayFollow_22 : decode b_P_leastThatMayFollow 22 = .ok (.getfield 9, 3) := by decide +kernel
theorem d_P_leastThatMayFollow_25 : decode b_P_leastThatMayFollow 25 = .ok (.iload_n 1, 1) := by decide +kernel
theorem d_P_leastThatMayFollow_26 : decode b_P_leastThatMayFollow 26 = .ok (.iconst 1, 1) := by decide +kernel
theorem d_P_leastThatMayFollow_27 : decode b_P_leastThatMayFollow 27 = .ok (.iload_n 2, 1) := by decide +kernel
theorem d_P_leastThatMayFollow_28 : decode b_P_leastThatMayFollow 28 = .ok (.ishl, 1) := by decide +kernel
theorem d_P_leastThatMayFollow_29 : decode b_P_leastThatMayFollow 29 = .ok (.ior, 1) := by decide +kernel
theorem d_P_leastThatMayFollow_30 : decode b_P_leastThatMayFollow 30 = .ok (.iaload, 1) := by decide +kernel
theorem d_P_leastThatMayFollow_31 : decode b_P_leastThatMayFollow 31 = .ok (.ifCond .le 5, 3) := by decide +kernel
theorem d_P_leastThatMayFollow_34 : decode b_P_leastThatMayFollow 34 = .ok (.iload_n 2, 1) := by decide +kernel
theorem d_P_leastThatMayFollow_35 : decode b_P_leastThatMayFollow 35 = .ok (.ireturn, 1) := by decide +kernel
theorem d_P_leastThatMayFollow_36 : decode b_P_leastThatMayFollow 36 = .ok (.iinc 2 1, 3) := by decide +kernel
theorem d_P_leastThatMayFollow_39 : decode b_P_leastThatMayFollow 39 = .ok (.goto (-37), 3) := by decide +kernel
theorem d_P_leastThatMayFollow_42 : decode b_P_leastThatMayFollow 42 = .ok (.iconst (-1), 1) := by decide +kernel
theorem d_P_leastThatMayFollow_43 : decode b_P_leastThatMayFollow 43 = .ok (.ireturn, 1) := by decide +kernel
theorem d_P_inFirstOrder_0 : decode b_P_inFirstOrder 0 = .ok (.iconst 0, 1) := by decide +kernel
theorem d_P_inFirstOrder_1 : decode b_P_inFirstOrder 1 = .ok (.istore_n 2, 1) := by decide +kernel
theorem d_P_inFirstOrder_2 : decode b_P_inFirstOrder 2 = .ok (.iconst (-1), 1) := by decide +kernel
theorem d_P_inFirstOrder_3 : decode b_P_inFirstOrder 3 = .ok (.istore_n 3, 1) := by decide +kernel
theorem d_P_inFirstOrder_4 : decode b_P_inFirstOrder 4 = .ok (.iconst 0, 1) := by decide +kernel
theorem d_P_inFirstOrder_5 : decode b_P_inFirstOrder 5 = .ok (.istore 4, 2) := by decide +kernel
theorem d_P_inFirstOrder_7 : decode b_P_inFirstOrder 7 = .ok (.iload 4, 2) := by decide +kernel
theorem d_P_inFirstOrder_9 : decode b_P_inFirstOrder 9 = .ok (.iload_n 1, 1) := by decide +kernel
theorem d_P_inFirstOrder_10 : decode b_P_inFirstOrder 10 = .ok (.if_icmp .gt 40, 3) := by decide +kernel
theorem d_P_inFirstOrder_13 : decode b_P_inFirstOrder 13 = .ok (.iload 4, 2) := by decide +kernel
theorem d_P_inFirstOrder_15 : decode b_P_inFirstOrder 15 = .ok (.aload_n 0, 1) := by decide +kernel
theorem d_P_inFirstOrder_16 : decode b_P_inFirstOrder 16 = .ok (.getfield 25, 3) := by decide +kernel
theorem d_P_inFirstOrder_19 : decode b_P_inFirstOrder 19 = .ok (.getfield 37, 3) := by decide +kernel
theorem d_P_inFirstOrder_22 : decode b_P_inFirstOrder 22 = .ok (.if_icmp .ge 28, 3) := by decide +kernel
theorem d_P_inFirstOrder_25 : decode b_P_inFirstOrder 25 = .ok (.aload_n 0, 1) := by decide +kernel
theorem d_P_inFirstOrder_26 : decode b_P_inFirstOrder 26 = .ok (.iload_n 2, 1) := by decide +kernel
theorem d_P_inFirstOrder_27 : decode b_P_inFirstOrder 27 = .ok (.invokevirtual 91, 3) := by decide +kernel
theorem d_P_inFirstOrder_30 : decode b_P_inFirstOrder 30 = .ok (.istore_n 3, 1) := by decide +kernel
theorem d_P_inFirstOrder_31 : decode b_P_inFirstOrder 31 = .ok (.iload_n 3, 1) := by decide +kernel
theorem d_P_inFirstOrder_32 : decode b_P_inFirstOrder 32 = .ok (.iconst (-1), 1) := by decide +kernel
theorem d_P_inFirstOrder_33 : decode b_P_inFirstOrder 33 = .ok (.if_icmp .ne 5, 3) := by decide +kernel
theorem d_P_inFirstOrder_36 : decode b_P_inFirstOrder 36 = .ok (.iconst (-1), 1) := by decide +kernel
theorem d_P_inFirstOrder_37 : decode b_P_inFirstOrder 37 = .ok (.ireturn, 1) := by decide +kernel
theorem d_P_inFirstOrder_38 : decode b_P_inFirstOrder 38 = .ok (.iload_n 2, 1) := by decide +kernel
theorem d_P_inFirstOrder_39 : decode b_P_inFirstOrder 39 = .ok (.iconst 1, 1) := by decide +kernel
theorem d_P_inFirstOrder_40 : decode b_P_inFirstOrder 40 = .ok (.iload_n 3, 1) := by decide +kernel
theorem d_P_inFirstOrder_41 : decode b_P_inFirstOrder 41 = .ok (.ishl, 1) := by decide +kernel
theorem d_P_inFirstOrder_42 : decode b_P_inFirstOrder 42 = .ok (.ior, 1) := by decide +kernel
theorem d_P_inFirstOrder_43 : decode b_P_inFirstOrder 43 = .ok (.istore_n 2, 1) := by decide +kernel
theorem d_P_inFirstOrder_44 : decode b_P_inFirstOrder 44 = .ok (.iinc 4 1, 3) := by decide +kernel
theorem d_P_inFirstOrder_47 : decode b_P_inFirstOrder 47 = .ok (.goto (-40), 3) := by decide +kernel
theorem d_P_inFirstOrder_50 : decode b_P_inFirstOrder 50 = .ok (.iload_n 3, 1) := by decide +kernel
theorem d_P_inFirstOrder_51 : decode b_P_inFirstOrder 51 = .ok (.ireturn, 1) := by decide +kernel
theorem d_T_setUp_0 : decode b_T_setUp 0 = .ok (.iload_n 1, 1) := by decide +kernel
theorem d_T_setUp_1 : decode b_T_setUp 1 = .ok (.iconst 1, 1) := by decide +kernel
theorem d_T_setUp_2 : decode b_T_setUp 2 = .ok (.iconst 4, 1) := by decide +kernel
theorem d_T_setUp_3 : decode b_T_setUp 3 = .ok (.invokestatic 128, 3) := by decide +kernel
theorem d_T_setUp_6 : decode b_T_setUp 6 = .ok (.ifCond .eq 17, 3) := by decide +kernel
theorem d_T_setUp_9 : decode b_T_setUp 9 = .ok (.iload_n 2, 1) := by decide +kernel
theorem d_T_setUp_10 : decode b_T_setUp 10 = .ok (.iload_n 3, 1) := by decide +kernel
theorem d_T_setUp_11 : decode b_T_setUp 11 = .ok (.invokestatic 153, 3) := by decide +kernel
theorem d_T_setUp_14 : decode b_T_setUp 14 = .ok (.ifCond .eq 9, 3) := by decide +kernel
theorem d_T_setUp_17 : decode b_T_setUp 17 = .ok (.iload 4, 2) := by decide +kernel
theorem d_T_setUp_19 : decode b_T_setUp 19 = .ok (.iconst (-1), 1) := by decide +kernel
theorem d_T_setUp_20 : decode b_T_setUp 20 = .ok (.if_icmp .ge 10, 3) := by decide +kernel
theorem d_T_setUp_23 : decode b_T_setUp 23 = .ok (.aload_n 0, 1) := by decide +kernel
theorem d_T_setUp_24 : decode b_T_setUp 24 = .ok (.bipush (-10), 2) := by decide +kernel
theorem d_T_setUp_26 : decode b_T_setUp 26 = .ok (.invokevirtual 78, 3) := by decide +kernel
theorem d_T_setUp_29 : decode b_T_setUp 29 = .ok (.ireturn, 1) := by decide +kernel
theorem d_T_setUp_30 : decode b_T_setUp 30 = .ok (.aload_n 0, 1) := by decide +kernel
theorem d_T_setUp_31 : decode b_T_setUp 31 = .ok (.invokevirtual 165, 3) := by decide +kernel
theorem d_T_setUp_34 : decode b_T_setUp 34 = .ok (.pop, 1) := by decide +kernel
theorem d_T_setUp_35 : decode b_T_setUp 35 = .ok (.aload_n 0, 1) := by decide +kernel
theorem d_T_setUp_36 : decode b_T_setUp 36 = .ok (.getfield 30, 3) := by decide +kernel
theorem d_T_setUp_39 : decode b_T_setUp 39 = .ok (.iload_n 1, 1) := by decide +kernel
theorem d_T_setUp_40 : decode b_T_setUp 40 = .ok (.iload_n 2, 1) := by decide +kernel
theorem d_T_setUp_41 : decode b_T_setUp 41 = .ok (.iload_n 3, 1) := by decide +kernel
theorem d_T_setUp_42 : decode b_T_setUp 42 = .ok (.invokevirtual 261, 3) := by decide +kernel
theorem d_T_setUp_45 : decode b_T_setUp 45 = .ok (.aload_n 0, 1) := by decide +kernel
theorem d_T_setUp_46 : decode b_T_setUp 46 = .ok (.getfield 30, 3) := by decide +kernel
theorem d_T_setUp_49 : decode b_T_setUp 49 = .ok (.iconst 0, 1) := by decide +kernel
theorem d_T_setUp_50 : decode b_T_setUp 50 = .ok (.invokevirtual 265, 3) := by decide +kernel
theorem d_T_setUp_53 : decode b_T_setUp 53 = .ok (.istore 5, 2) := by decide +kernel
theorem d_T_setUp_55 : decode b_T_setUp 55 = .ok (.iload 4, 2) := by decide +kernel
theorem d_T_setUp_57 : decode b_T_setUp 57 = .ok (.iconst (-1), 1) := by decide +kernel
theorem d_T_setUp_58 : decode b_T_setUp 58 = .ok (.if_icmp .ne 6, 3) := by decide +kernel
theorem d_T_setUp_61 : decode b_T_setUp 61 = .ok (.iload 5, 2) := by decide +kernel
theorem d_T_setUp_63 : decode b_T_setUp 63 = .ok (.ireturn, 1) := by decide +kernel
theorem d_T_setUp_64 : decode b_T_setUp 64 = .ok (.iload 5, 2) := by decide +kernel
theorem d_T_setUp_66 : decode b_T_setUp 66 = .ok (.ifCond .ne 5, 3) := by decide +kernel
theorem d_T_setUp_69 : decode b_T_setUp 69 = .ok (.iconst (-1), 1) := by decide +kernel
theorem d_T_setUp_70 : decode b_T_setUp 70 = .ok (.ireturn, 1) := by decide +kernel
theorem d_T_setUp_71 : decode b_T_setUp 71 = .ok (.iload 4, 2) := by decide +kernel
theorem d_T_setUp_73 : decode b_T_setUp 73 = .ok (.aload_n 0, 1) := by decide +kernel
theorem d_T_setUp_74 : decode b_T_setUp 74 = .ok (.getfield 10, 3) := by decide +kernel
theorem d_T_setUp_77 : decode b_T_setUp 77 = .ok (.getfield 82, 3) := by decide +kernel
theorem d_T_setUp_80 : decode b_T_setUp 80 = .ok (.if_icmp .ge 15, 3) := by decide +kernel
theorem d_T_setUp_83 : decode b_T_setUp 83 = .ok (.aload_n 0, 1) := by decide +kernel
theorem d_T_setUp_84 : decode b_T_setUp 84 = .ok (.getfield 30, 3) := by decide +kernel
theorem d_T_setUp_87 : decode b_T_setUp 87 = .ok (.iload 4, 2) := by decide +kernel
theorem d_T_setUp_89 : decode b_T_setUp 89 = .ok (.invokevirtual 268, 3) := by decide +kernel
theorem d_T_setUp_92 : decode b_T_setUp 92 = .ok (.goto 5, 3) := by decide +kernel
theorem d_T_setUp_95 : decode b_T_setUp 95 = .ok (.bipush (-5), 2) := by decide +kernel
theorem d_T_setUp_97 : decode b_T_setUp 97 = .ok (.ireturn, 1) := by decide +kernel
theorem d_P_lookBack_0 : decode b_P_lookBack 0 = .ok (.aload_n 0, 1) := by decide +kernel
theorem d_P_lookBack_1 : decode b_P_lookBack 1 = .ok (.getfield 25, 3) := by decide +kernel
theorem d_P_lookBack_4 : decode b_P_lookBack 4 = .ok (.getfield 94, 3) := by decide +kernel
theorem d_P_lookBack_7 : decode b_P_lookBack 7 = .ok (.iload_n 1, 1) := by decide +kernel
theorem d_P_lookBack_8 : decode b_P_lookBack 8 = .ok (.iconst (-1), 1) := by decide +kernel
theorem d_P_lookBack_9 : decode b_P_lookBack 9 = .ok (.ixor, 1) := by decide +kernel
theorem d_P_lookBack_10 : decode b_P_lookBack 10 = .ok (.iand, 1) := by decide +kernel
theorem d_P_lookBack_11 : decode b_P_lookBack 11 = .ok (.istore_n 2, 1) := by decide +kernel
theorem d_P_lookBack_12 : decode b_P_lookBack 12 = .ok (.aload_n 0, 1) := by decide +kernel
theorem d_P_lookBack_13 : decode b_P_lookBack 13 = .ok (.iconst 0, 1) := by decide +kernel
theorem d_P_lookBack_14 : decode b_P_lookBack 14 = .ok (.putfield 18, 3) := by decide +kernel
theorem d_P_lookBack_17 : decode b_P_lookBack 17 = .ok (.aload_n 0, 1) := by decide +kernel
theorem d_P_lookBack_18 : decode b_P_lookBack 18 = .ok (.iconst (-1), 1) := by decide +kernel
theorem d_P_lookBack_19 : decode b_P_lookBack 19 = .ok (.putfield 22, 3) := by decide +kernel
theorem d_P_lookBack_22 : decode b_P_lookBack 22 = .ok (.iconst 0, 1) := by decide +kernel
theorem d_P_lookBack_23 : decode b_P_lookBack 23 = .ok (.istore_n 3, 1) := by decide +kernel
theorem d_P_lookBack_24 : decode b_P_lookBack 24 = .ok (.iload_n 3, 1) := by decide +kernel
theorem d_P_lookBack_25 : decode b_P_lookBack 25 = .ok (.bipush 8, 2) := by decide +kernel
theorem d_P_lookBack_27 : decode b_P_lookBack 27 = .ok (.if_icmp .ge 95, 3) := by decide +kernel
theorem d_P_lookBack_30 : decode b_P_lookBack 30 = .ok (.iconst 0, 1) := by decide +kernel
theorem d_P_lookBack_31 : decode b_P_lookBack 31 = .ok (.istore 4, 2) := by decide +kernel
theorem d_P_lookBack_33 : decode b_P_lookBack 33 = .ok (.iload 4, 2) := by decide +kernel
theorem d_P_lookBack_35 : decode b_P_lookBack 35 = .ok (.bipush 60, 2) := by decide +kernel
theorem d_P_lookBack_37 : decode b_P_lookBack 37 = .ok (.if_icmp .gt 79, 3) := by decide +kernel
theorem d_P_lookBack_40 : decode b_P_lookBack 40 = .ok (.aload_n 0, 1) := by decide +kernel
theorem d_P_lookBack_41 : decode b_P_lookBack 41 = .ok (.getfield 29, 3) := by decide +kernel
theorem d_P_lookBack_44 : decode b_P_lookBack 44 = .ok (.aload_n 0, 1) := by decide +kernel
theorem d_P_lookBack_45 : decode b_P_lookBack 45 = .ok (.getfield 25, 3) := by decide +kernel
theorem d_P_lookBack_48 : decode b_P_lookBack 48 = .ok (.getfield 94, 3) := by decide +kernel
theorem d_P_lookBack_51 : decode b_P_lookBack 51 = .ok (.putfield 48, 3) := by decide +kernel
theorem d_P_lookBack_54 : decode b_P_lookBack 54 = .ok (.aload_n 0, 1) := by decide +kernel
theorem d_P_lookBack_55 : decode b_P_lookBack 55 = .ok (.getfield 29, 3) := by decide +kernel
theorem d_P_lookBack_58 : decode b_P_lookBack 58 = .ok (.iload_n 3, 1) := by decide +kernel
theorem d_P_lookBack_59 : decode b_P_lookBack 59 = .ok (.iload 4, 2) := by decide +kernel
theorem d_P_lookBack_61 : decode b_P_lookBack 61 = .ok (.invokevirtual 95, 3) := by decide +kernel
theorem d_P_lookBack_64 : decode b_P_lookBack 64 = .ok (.aload_n 0, 1) := by decide +kernel
theorem d_P_lookBack_65 : decode b_P_lookBack 65 = .ok (.getfield 29, 3) := by decide +kernel
theorem d_P_lookBack_68 : decode b_P_lookBack 68 = .ok (.getfield 48, 3) := by decide +kernel
theorem d_P_lookBack_71 : decode b_P_lookBack 71 = .ok (.iload_n 2, 1) := by decide +kernel
theorem d_P_lookBack_72 : decode b_P_lookBack 72 = .ok (.if_icmp .ne 38, 3) := by decide +kernel
theorem d_P_lookBack_75 : decode b_P_lookBack 75 = .ok (.aload_n 0, 1) := by decide +kernel
theorem d_P_lookBack_76 : decode b_P_lookBack 76 = .ok (.aload_n 0, 1) := by decide +kernel
theorem d_P_lookBack_77 : decode b_P_lookBack 77 = .ok (.getfield 18, 3) := by decide +kernel
theorem d_P_lookBack_80 : decode b_P_lookBack 80 = .ok (.ifCond .ne 13, 3) := by decide +kernel
theorem d_P_lookBack_83 : decode b_P_lookBack 83 = .ok (.bipush 100, 2) := by decide +kernel
theorem d_P_lookBack_85 : decode b_P_lookBack 85 = .ok (.iload_n 3, 1) := by decide +kernel
theorem d_P_lookBack_86 : decode b_P_lookBack 86 = .ok (.imul, 1) := by decide +kernel
theorem d_P_lookBack_87 : decode b_P_lookBack 87 = .ok (.iload 4, 2) := by decide +kernel
theorem d_P_lookBack_89 : decode b_P_lookBack 89 = .ok (.iadd, 1) := by decide +kernel
theorem d_P_lookBack_90 : decode b_P_lookBack 90 = .ok (.goto 7, 3) := by decide +kernel
theorem d_P_lookBack_93 : decode b_P_lookBack 93 = .ok (.aload_n 0, 1) := by decide +kernel
theorem d_P_lookBack_94 : decode b_P_lookBack 94 = .ok (.getfield 22, 3) := by decide +kernel
theorem d_P_lookBack_97 : decode b_P_lookBack 97 = .ok (.putfield 22, 3) := by decide +kernel
theorem d_P_lookBack_100 : decode b_P_lookBack 100 = .ok (.aload_n 0, 1) := by decide +kernel
theorem d_P_lookBack_101 : decode b_P_lookBack 101 = .ok (.dup, 1) := by decide +kernel
theorem d_P_lookBack_102 : decode b_P_lookBack 102 = .ok (.getfield 18, 3) := by decide +kernel
theorem d_P_lookBack_105 : decode b_P_lookBack 105 = .ok (.iconst 1, 1) := by decide +kernel
theorem d_P_lookBack_106 : decode b_P_lookBack 106 = .ok (.iadd, 1) := by decide +kernel
theorem d_P_lookBack_107 : decode b_P_lookBack 107 = .ok (.putfield 18, 3) := by decide +kernel
theorem d_P_lookBack_110 : decode b_P_lookBack 110 = .ok (.iinc 4 1, 3) := by decide +kernel
theorem d_P_lookBack_113 : decode b_P_lookBack 113 = .ok (.goto (-80), 3) := by decide +kernel
theorem d_P_lookBack_116 : decode b_P_lookBack 116 = .ok (.iinc 3 1, 3) := by decide +kernel
theorem d_P_lookBack_119 : decode b_P_lookBack 119 = .ok (.goto (-95), 3) := by decide +kernel
theorem d_P_lookBack_122 : decode b_P_lookBack 122 = .ok (.return_, 1) := by decide +kernel
theorem d_T_morning_0 : decode b_T_morning 0 = .ok (.iload_n 1, 1) := by decide +kernel
theorem d_T_morning_1 : decode b_T_morning 1 = .ok (.ifCond .lt 21, 3) := by decide +kernel
theorem d_T_morning_4 : decode b_T_morning 4 = .ok (.iload_n 1, 1) := by decide +kernel
theorem d_T_morning_5 : decode b_T_morning 5 = .ok (.aload_n 0, 1) := by decide +kernel
theorem d_T_morning_6 : decode b_T_morning 6 = .ok (.getfield 10, 3) := by decide +kernel
theorem d_T_morning_9 : decode b_T_morning 9 = .ok (.getfield 156, 3) := by decide +kernel
theorem d_T_morning_12 : decode b_T_morning 12 = .ok (.iconst (-1), 1) := by decide +kernel
theorem d_T_morning_13 : decode b_T_morning 13 = .ok (.ixor, 1) := by decide +kernel
theorem d_T_morning_14 : decode b_T_morning 14 = .ok (.iand, 1) := by decide +kernel
theorem d_T_morning_15 : decode b_T_morning 15 = .ok (.ifCond .ne 7, 3) := by decide +kernel
theorem d_T_morning_18 : decode b_T_morning 18 = .ok (.iconst 1, 1) := by decide +kernel
theorem d_T_morning_19 : decode b_T_morning 19 = .ok (.goto 4, 3) := by decide +kernel
theorem d_T_morning_22 : decode b_T_morning 22 = .ok (.iconst 0, 1) := by decide +kernel
theorem d_T_morning_23 : decode b_T_morning 23 = .ok (.istore_n 3, 1) := by decide +kernel
theorem d_T_morning_24 : decode b_T_morning 24 = .ok (.iload_n 3, 1) := by decide +kernel
theorem d_T_morning_25 : decode b_T_morning 25 = .ok (.ifCond .eq 12, 3) := by decide +kernel
theorem d_T_morning_28 : decode b_T_morning 28 = .ok (.iload_n 2, 1) := by decide +kernel
theorem d_T_morning_29 : decode b_T_morning 29 = .ok (.iconst 0, 1) := by decide +kernel
theorem d_T_morning_30 : decode b_T_morning 30 = .ok (.iconst 1, 1) := by decide +kernel
theorem d_T_morning_31 : decode b_T_morning 31 = .ok (.invokestatic 128, 3) := by decide +kernel
theorem d_T_morning_34 : decode b_T_morning 34 = .ok (.ifCond .ne 10, 3) := by decide +kernel
theorem d_T_morning_37 : decode b_T_morning 37 = .ok (.aload_n 0, 1) := by decide +kernel
theorem d_T_morning_38 : decode b_T_morning 38 = .ok (.bipush (-10), 2) := by decide +kernel
theorem d_T_morning_40 : decode b_T_morning 40 = .ok (.invokevirtual 78, 3) := by decide +kernel
theorem d_T_morning_43 : decode b_T_morning 43 = .ok (.ireturn, 1) := by decide +kernel
theorem d_T_morning_44 : decode b_T_morning 44 = .ok (.aload_n 0, 1) := by decide +kernel
theorem d_T_morning_45 : decode b_T_morning 45 = .ok (.invokevirtual 165, 3) := by decide +kernel
theorem d_T_morning_48 : decode b_T_morning 48 = .ok (.pop, 1) := by decide +kernel
theorem d_T_morning_49 : decode b_T_morning 49 = .ok (.aload_n 0, 1) := by decide +kernel
theorem d_T_morning_50 : decode b_T_morning 50 = .ok (.getfield 30, 3) := by decide +kernel
theorem d_T_morning_53 : decode b_T_morning 53 = .ok (.iload_n 1, 1) := by decide +kernel
theorem d_T_morning_54 : decode b_T_morning 54 = .ok (.invokevirtual 271, 3) := by decide +kernel
theorem d_T_morning_57 : decode b_T_morning 57 = .ok (.iload_n 2, 1) := by decide +kernel
theorem d_T_morning_58 : decode b_T_morning 58 = .ok (.ifCond .ne 13, 3) := by decide +kernel
theorem d_T_morning_61 : decode b_T_morning 61 = .ok (.aload_n 0, 1) := by decide +kernel
theorem d_T_morning_62 : decode b_T_morning 62 = .ok (.getfield 30, 3) := by decide +kernel
theorem d_T_morning_65 : decode b_T_morning 65 = .ok (.getfield 274, 3) := by decide +kernel
theorem d_T_morning_68 : decode b_T_morning 68 = .ok (.goto 10, 3) := by decide +kernel
theorem d_T_morning_71 : decode b_T_morning 71 = .ok (.aload_n 0, 1) := by decide +kernel
theorem d_T_morning_72 : decode b_T_morning 72 = .ok (.getfield 30, 3) := by decide +kernel
theorem d_T_morning_75 : decode b_T_morning 75 = .ok (.getfield 277, 3) := by decide +kernel
theorem d_T_morning_78 : decode b_T_morning 78 = .ok (.ireturn, 1) := by decide +kernel
theorem d_P_seeNeeds_0 : decode b_P_seeNeeds 0 = .ok (.iconst 0, 1) := by decide +kernel
theorem d_P_seeNeeds_1 : decode b_P_seeNeeds 1 = .ok (.istore_n 3, 1) := by decide +kernel
theorem d_P_seeNeeds_2 : decode b_P_seeNeeds 2 = .ok (.iload_n 3, 1) := by decide +kernel
theorem d_P_seeNeeds_3 : decode b_P_seeNeeds 3 = .ok (.aload_n 0, 1) := by decide +kernel
theorem d_P_seeNeeds_4 : decode b_P_seeNeeds 4 = .ok (.getfield 25, 3) := by decide +kernel
theorem d_P_seeNeeds_7 : decode b_P_seeNeeds 7 = .ok (.getfield 37, 3) := by decide +kernel
theorem d_P_seeNeeds_10 : decode b_P_seeNeeds 10 = .ok (.if_icmp .ge 31, 3) := by decide +kernel
theorem d_P_seeNeeds_13 : decode b_P_seeNeeds 13 = .ok (.aload_n 0, 1) := by decide +kernel
theorem d_P_seeNeeds_14 : decode b_P_seeNeeds 14 = .ok (.getfield 15, 3) := by decide +kernel
theorem d_P_seeNeeds_17 : decode b_P_seeNeeds 17 = .ok (.iload_n 3, 1) := by decide +kernel
theorem d_P_seeNeeds_18 : decode b_P_seeNeeds 18 = .ok (.aload_n 0, 1) := by decide +kernel
theorem d_P_seeNeeds_19 : decode b_P_seeNeeds 19 = .ok (.iload_n 3, 1) := by decide +kernel
theorem d_P_seeNeeds_20 : decode b_P_seeNeeds 20 = .ok (.iconst 0, 1) := by decide +kernel
theorem d_P_seeNeeds_21 : decode b_P_seeNeeds 21 = .ok (.aload_n 0, 1) := by decide +kernel
theorem d_P_seeNeeds_22 : decode b_P_seeNeeds 22 = .ok (.getfield 29, 3) := by decide +kernel
theorem d_P_seeNeeds_25 : decode b_P_seeNeeds 25 = .ok (.iload_n 3, 1) := by decide +kernel
theorem d_P_seeNeeds_26 : decode b_P_seeNeeds 26 = .ok (.iload_n 1, 1) := by decide +kernel
theorem d_P_seeNeeds_27 : decode b_P_seeNeeds 27 = .ok (.iload_n 2, 1) := by decide +kernel
theorem d_P_seeNeeds_28 : decode b_P_seeNeeds 28 = .ok (.invokevirtual 72, 3) := by decide +kernel
theorem d_P_seeNeeds_31 : decode b_P_seeNeeds 31 = .ok (.invokevirtual 76, 3) := by decide +kernel
theorem d_P_seeNeeds_34 : decode b_P_seeNeeds 34 = .ok (.iastore, 1) := by decide +kernel
theorem d_P_seeNeeds_35 : decode b_P_seeNeeds 35 = .ok (.iinc 3 1, 3) := by decide +kernel
theorem d_P_seeNeeds_38 : decode b_P_seeNeeds 38 = .ok (.goto (-36), 3) := by decide +kernel
theorem d_P_seeNeeds_41 : decode b_P_seeNeeds 41 = .ok (.return_, 1) := by decide +kernel
theorem d_P_inchesTooMany_0 : decode b_P_inchesTooMany 0 = .ok (.iconst 0, 1) := by decide +kernel
theorem d_P_inchesTooMany_1 : decode b_P_inchesTooMany 1 = .ok (.istore_n 1, 1) := by decide +kernel
theorem d_P_inchesTooMany_2 : decode b_P_inchesTooMany 2 = .ok (.iconst 0, 1) := by decide +kernel
theorem d_P_inchesTooMany_3 : decode b_P_inchesTooMany 3 = .ok (.istore_n 2, 1) := by decide +kernel
theorem d_P_inchesTooMany_4 : decode b_P_inchesTooMany 4 = .ok (.iload_n 2, 1) := by decide +kernel
theorem d_P_inchesTooMany_5 : decode b_P_inchesTooMany 5 = .ok (.aload_n 0, 1) := by decide +kernel
theorem d_P_inchesTooMany_6 : decode b_P_inchesTooMany 6 = .ok (.getfield 25, 3) := by decide +kernel
theorem d_P_inchesTooMany_9 : decode b_P_inchesTooMany 9 = .ok (.getfield 37, 3) := by decide +kernel
theorem d_P_inchesTooMany_12 : decode b_P_inchesTooMany 12 = .ok (.if_icmp .ge 50, 3) := by decide +kernel
theorem d_P_inchesTooMany_15 : decode b_P_inchesTooMany 15 = .ok (.iload_n 1, 1) := by decide +kernel
theorem d_P_inchesTooMany_16 : decode b_P_inchesTooMany 16 = .ok (.aload_n 0, 1) := by decide +kernel
theorem d_P_inchesTooMany_17 : decode b_P_inchesTooMany 17 = .ok (.getfield 25, 3) := by decide +kernel
theorem d_P_inchesTooMany_20 : decode b_P_inchesTooMany 20 = .ok (.getfield 94, 3) := by decide +kernel
theorem d_P_inchesTooMany_23 : decode b_P_inchesTooMany 23 = .ok (.iload_n 2, 1) := by decide +kernel
theorem d_P_inchesTooMany_24 : decode b_P_inchesTooMany 24 = .ok (.invokestatic 33, 3) := by decide +kernel
theorem d_P_inchesTooMany_27 : decode b_P_inchesTooMany 27 = .ok (.ifCond .eq 26, 3) := by decide +kernel
theorem d_P_inchesTooMany_30 : decode b_P_inchesTooMany 30 = .ok (.iconst 0, 1) := by decide +kernel
theorem d_P_inchesTooMany_31 : decode b_P_inchesTooMany 31 = .ok (.aload_n 0, 1) := by decide +kernel
theorem d_P_inchesTooMany_32 : decode b_P_inchesTooMany 32 = .ok (.getfield 25, 3) := by decide +kernel
theorem d_P_inchesTooMany_35 : decode b_P_inchesTooMany 35 = .ok (.getfield 69, 3) := by decide +kernel
theorem d_P_inchesTooMany_38 : decode b_P_inchesTooMany 38 = .ok (.iload_n 2, 1) := by decide +kernel
theorem d_P_inchesTooMany_39 : decode b_P_inchesTooMany 39 = .ok (.iaload, 1) := by decide +kernel
theorem d_P_inchesTooMany_40 : decode b_P_inchesTooMany 40 = .ok (.aload_n 0, 1) := by decide +kernel
theorem d_P_inchesTooMany_41 : decode b_P_inchesTooMany 41 = .ok (.getfield 15, 3) := by decide +kernel
theorem d_P_inchesTooMany_44 : decode b_P_inchesTooMany 44 = .ok (.iload_n 2, 1) := by decide +kernel
theorem d_P_inchesTooMany_45 : decode b_P_inchesTooMany 45 = .ok (.iaload, 1) := by decide +kernel
theorem d_P_inchesTooMany_46 : decode b_P_inchesTooMany 46 = .ok (.isub, 1) := by decide +kernel
theorem d_P_inchesTooMany_47 : decode b_P_inchesTooMany 47 = .ok (.invokestatic 60, 3) := by decide +kernel
theorem d_P_inchesTooMany_50 : decode b_P_inchesTooMany 50 = .ok (.goto 4, 3) := by decide +kernel
theorem d_P_inchesTooMany_53 : decode b_P_inchesTooMany 53 = .ok (.iconst 0, 1) := by decide +kernel
theorem d_P_inchesTooMany_54 : decode b_P_inchesTooMany 54 = .ok (.iadd, 1) := by decide +kernel
theorem d_P_inchesTooMany_55 : decode b_P_inchesTooMany 55 = .ok (.istore_n 1, 1) := by decide +kernel
theorem d_P_inchesTooMany_56 : decode b_P_inchesTooMany 56 = .ok (.iinc 2 1, 3) := by decide +kernel
theorem d_P_inchesTooMany_59 : decode b_P_inchesTooMany 59 = .ok (.goto (-55), 3) := by decide +kernel
theorem d_P_inchesTooMany_62 : decode b_P_inchesTooMany 62 = .ok (.iload_n 1, 1) := by decide +kernel
theorem d_P_inchesTooMany_63 : decode b_P_inchesTooMany 63 = .ok (.ireturn, 1) := by decide +kernel
theorem d_P_inchesTooFew_0 : decode b_P_inchesTooFew 0 = .ok (.iconst 0, 1) := by decide +kernel
theorem d_P_inchesTooFew_1 : decode b_P_inchesTooFew 1 = .ok (.istore_n 1, 1) := by decide +kernel
theorem d_P_inchesTooFew_2 : decode b_P_inchesTooFew 2 = .ok (.iconst 0, 1) := by decide +kernel
theorem d_P_inchesTooFew_3 : decode b_P_inchesTooFew 3 = .ok (.istore_n 2, 1) := by decide +kernel
theorem d_P_inchesTooFew_4 : decode b_P_inchesTooFew 4 = .ok (.iload_n 2, 1) := by decide +kernel
theorem d_P_inchesTooFew_5 : decode b_P_inchesTooFew 5 = .ok (.aload_n 0, 1) := by decide +kernel
theorem d_P_inchesTooFew_6 : decode b_P_inchesTooFew 6 = .ok (.getfield 25, 3) := by decide +kernel
theorem d_P_inchesTooFew_9 : decode b_P_inchesTooFew 9 = .ok (.getfield 37, 3) := by decide +kernel
theorem d_P_inchesTooFew_12 : decode b_P_inchesTooFew 12 = .ok (.if_icmp .ge 50, 3) := by decide +kernel
theorem d_P_inchesTooFew_15 : decode b_P_inchesTooFew 15 = .ok (.iload_n 1, 1) := by decide +kernel
theorem d_P_inchesTooFew_16 : decode b_P_inchesTooFew 16 = .ok (.aload_n 0, 1) := by decide +kernel
theorem d_P_inchesTooFew_17 : decode b_P_inchesTooFew 17 = .ok (.getfield 25, 3) := by decide +kernel
theorem d_P_inchesTooFew_20 : decode b_P_inchesTooFew 20 = .ok (.getfield 94, 3) := by decide +kernel
theorem d_P_inchesTooFew_23 : decode b_P_inchesTooFew 23 = .ok (.iload_n 2, 1) := by decide +kernel
theorem d_P_inchesTooFew_24 : decode b_P_inchesTooFew 24 = .ok (.invokestatic 33, 3) := by decide +kernel
theorem d_P_inchesTooFew_27 : decode b_P_inchesTooFew 27 = .ok (.ifCond .eq 26, 3) := by decide +kernel
theorem d_P_inchesTooFew_30 : decode b_P_inchesTooFew 30 = .ok (.iconst 0, 1) := by decide +kernel
theorem d_P_inchesTooFew_31 : decode b_P_inchesTooFew 31 = .ok (.aload_n 0, 1) := by decide +kernel
theorem d_P_inchesTooFew_32 : decode b_P_inchesTooFew 32 = .ok (.getfield 15, 3) := by decide +kernel
theorem d_P_inchesTooFew_35 : decode b_P_inchesTooFew 35 = .ok (.iload_n 2, 1) := by decide +kernel
theorem d_P_inchesTooFew_36 : decode b_P_inchesTooFew 36 = .ok (.iaload, 1) := by decide +kernel
theorem d_P_inchesTooFew_37 : decode b_P_inchesTooFew 37 = .ok (.aload_n 0, 1) := by decide +kernel
theorem d_P_inchesTooFew_38 : decode b_P_inchesTooFew 38 = .ok (.getfield 25, 3) := by decide +kernel
theorem d_P_inchesTooFew_41 : decode b_P_inchesTooFew 41 = .ok (.getfield 69, 3) := by decide +kernel
theorem d_P_inchesTooFew_44 : decode b_P_inchesTooFew 44 = .ok (.iload_n 2, 1) := by decide +kernel
theorem d_P_inchesTooFew_45 : decode b_P_inchesTooFew 45 = .ok (.iaload, 1) := by decide +kernel
theorem d_P_inchesTooFew_46 : decode b_P_inchesTooFew 46 = .ok (.isub, 1) := by decide +kernel
theorem d_P_inchesTooFew_47 : decode b_P_inchesTooFew 47 = .ok (.invokestatic 60, 3) := by decide +kernel
theorem d_P_inchesTooFew_50 : decode b_P_inchesTooFew 50 = .ok (.goto 4, 3) := by decide +kernel
theorem d_P_inchesTooFew_53 : decode b_P_inchesTooFew 53 = .ok (.iconst 0, 1) := by decide +kernel
theorem d_P_inchesTooFew_54 : decode b_P_inchesTooFew 54 = .ok (.iadd, 1) := by decide +kernel
theorem d_P_inchesTooFew_55 : decode b_P_inchesTooFew 55 = .ok (.istore_n 1, 1) := by decide +kernel
theorem d_P_inchesTooFew_56 : decode b_P_inchesTooFew 56 = .ok (.iinc 2 1, 3) := by decide +kernel
theorem d_P_inchesTooFew_59 : decode b_P_inchesTooFew 59 = .ok (.goto (-55), 3) := by decide +kernel
theorem d_P_inchesTooFew_62 : decode b_P_inchesTooFew 62 = .ok (.iload_n 1, 1) := by decide +kernel
theorem d_P_inchesTooFew_63 : decode b_P_inchesTooFew 63 = .ok (.ireturn, 1) := by decide +kernel
theorem d_P_inchesOfAll_0 : decode b_P_inchesOfAll 0 = .ok (.iconst 0, 1) := by decide +kernel
theorem d_P_inchesOfAll_1 : decode b_P_inchesOfAll 1 = .ok (.istore_n 1, 1) := by decide +kernel
theorem d_P_inchesOfAll_2 : decode b_P_inchesOfAll 2 = .ok (.iconst 0, 1) := by decide +kernel
theorem d_P_inchesOfAll_3 : decode b_P_inchesOfAll 3 = .ok (.istore_n 2, 1) := by decide +kernel
theorem d_P_inchesOfAll_4 : decode b_P_inchesOfAll 4 = .ok (.iload_n 2, 1) := by decide +kernel
theorem d_P_inchesOfAll_5 : decode b_P_inchesOfAll 5 = .ok (.aload_n 0, 1) := by decide +kernel
theorem d_P_inchesOfAll_6 : decode b_P_inchesOfAll 6 = .ok (.getfield 25, 3) := by decide +kernel
theorem d_P_inchesOfAll_9 : decode b_P_inchesOfAll 9 = .ok (.getfield 37, 3) := by decide +kernel
theorem d_P_inchesOfAll_12 : decode b_P_inchesOfAll 12 = .ok (.if_icmp .ge 39, 3) := by decide +kernel
theorem d_P_inchesOfAll_15 : decode b_P_inchesOfAll 15 = .ok (.iload_n 1, 1) := by decide +kernel
theorem d_P_inchesOfAll_16 : decode b_P_inchesOfAll 16 = .ok (.aload_n 0, 1) := by decide +kernel
theorem d_P_inchesOfAll_17 : decode b_P_inchesOfAll 17 = .ok (.getfield 25, 3) := by decide +kernel
theorem d_P_inchesOfAll_20 : decode b_P_inchesOfAll 20 = .ok (.getfield 94, 3) := by decide +kernel
theorem d_P_inchesOfAll_23 : decode b_P_inchesOfAll 23 = .ok (.iload_n 2, 1) := by decide +kernel
theorem d_P_inchesOfAll_24 : decode b_P_inchesOfAll 24 = .ok (.invokestatic 33, 3) := by decide +kernel
theorem d_P_inchesOfAll_27 : decode b_P_inchesOfAll 27 = .ok (.ifCond .eq 15, 3) := by decide +kernel
theorem d_P_inchesOfAll_30 : decode b_P_inchesOfAll 30 = .ok (.aload_n 0, 1) := by decide +kernel
theorem d_P_inchesOfAll_31 : decode b_P_inchesOfAll 31 = .ok (.getfield 25, 3) := by decide +kernel
theorem d_P_inchesOfAll_34 : decode b_P_inchesOfAll 34 = .ok (.getfield 69, 3) := by decide +kernel
theorem d_P_inchesOfAll_37 : decode b_P_inchesOfAll 37 = .ok (.iload_n 2, 1) := by decide +kernel
theorem d_P_inchesOfAll_38 : decode b_P_inchesOfAll 38 = .ok (.iaload, 1) := by decide +kernel
theorem d_P_inchesOfAll_39 : decode b_P_inchesOfAll 39 = .ok (.goto 4, 3) := by decide +kernel
theorem d_P_inchesOfAll_42 : decode b_P_inchesOfAll 42 = .ok (.iconst 0, 1) := by decide +kernel
theorem d_P_inchesOfAll_43 : decode b_P_inchesOfAll 43 = .ok (.iadd, 1) := by decide +kernel
theorem d_P_inchesOfAll_44 : decode b_P_inchesOfAll 44 = .ok (.istore_n 1, 1) := by decide +kernel
theorem d_P_inchesOfAll_45 : decode b_P_inchesOfAll 45 = .ok (.iinc 2 1, 3) := by decide +kernel
theorem d_P_inchesOfAll_48 : decode b_P_inchesOfAll 48 = .ok (.goto (-44), 3) := by decide +kernel
theorem d_P_inchesOfAll_51 : decode b_P_inchesOfAll 51 = .ok (.iload_n 1, 1) := by decide +kernel
theorem d_P_inchesOfAll_52 : decode b_P_inchesOfAll 52 = .ok (.ireturn, 1) := by decide +kernel
theorem d_P_balance_0 : decode b_P_balance 0 = .ok (.aload_n 0, 1) := by decide +kernel
theorem d_P_balance_1 : decode b_P_balance 1 = .ok (.invokevirtual 99, 3) := by decide +kernel
theorem d_P_balance_4 : decode b_P_balance 4 = .ok (.istore_n 1, 1) := by decide +kernel
theorem d_P_balance_5 : decode b_P_balance 5 = .ok (.iconst 0, 1) := by decide +kernel
theorem d_P_balance_6 : decode b_P_balance 6 = .ok (.istore_n 2, 1) := by decide +kernel
theorem d_P_balance_7 : decode b_P_balance 7 = .ok (.iconst 0, 1) := by decide +kernel
theorem d_P_balance_8 : decode b_P_balance 8 = .ok (.istore_n 3, 1) := by decide +kernel
theorem d_P_balance_9 : decode b_P_balance 9 = .ok (.iload_n 3, 1) := by decide +kernel
theorem d_P_balance_10 : decode b_P_balance 10 = .ok (.bipush 9, 2) := by decide +kernel
theorem d_P_balance_12 : decode b_P_balance 12 = .ok (.if_icmp .gt 68, 3) := by decide +kernel
theorem d_P_balance_15 : decode b_P_balance 15 = .ok (.iconst 0, 1) := by decide +kernel
theorem d_P_balance_16 : decode b_P_balance 16 = .ok (.istore 4, 2) := by decide +kernel
theorem d_P_balance_18 : decode b_P_balance 18 = .ok (.iload 4, 2) := by decide +kernel
theorem d_P_balance_20 : decode b_P_balance 20 = .ok (.aload_n 0, 1) := by decide +kernel
theorem d_P_balance_21 : decode b_P_balance 21 = .ok (.getfield 25, 3) := by decide +kernel
theorem d_P_balance_24 : decode b_P_balance 24 = .ok (.getfield 37, 3) := by decide +kernel
theorem d_P_balance_27 : decode b_P_balance 27 = .ok (.if_icmp .ge 47, 3) := by decide +kernel
theorem d_P_balance_30 : decode b_P_balance 30 = .ok (.aload_n 0, 1) := by decide +kernel
theorem d_P_balance_31 : decode b_P_balance 31 = .ok (.getfield 25, 3) := by decide +kernel
theorem d_P_balance_34 : decode b_P_balance 34 = .ok (.getfield 94, 3) := by decide +kernel
theorem d_P_balance_37 : decode b_P_balance 37 = .ok (.iload 4, 2) := by decide +kernel
theorem d_P_balance_39 : decode b_P_balance 39 = .ok (.invokestatic 33, 3) := by decide +kernel
theorem d_P_balance_42 : decode b_P_balance 42 = .ok (.ifCond .eq 26, 3) := by decide +kernel
theorem d_P_balance_45 : decode b_P_balance 45 = .ok (.aload_n 0, 1) := by decide +kernel
theorem d_P_balance_46 : decode b_P_balance 46 = .ok (.getfield 15, 3) := by decide +kernel
theorem d_P_balance_49 : decode b_P_balance 49 = .ok (.iload 4, 2) := by decide +kernel
theorem d_P_balance_51 : decode b_P_balance 51 = .ok (.iaload, 1) := by decide +kernel
theorem d_P_balance_52 : decode b_P_balance 52 = .ok (.iload_n 3, 1) := by decide +kernel
theorem d_P_balance_53 : decode b_P_balance 53 = .ok (.if_icmp .ne 15, 3) := by decide +kernel
theorem d_P_balance_56 : decode b_P_balance 56 = .ok (.iload_n 1, 1) := by decide +kernel
theorem d_P_balance_57 : decode b_P_balance 57 = .ok (.iload_n 3, 1) := by decide +kernel
theorem d_P_balance_58 : decode b_P_balance 58 = .ok (.if_icmp .lt 10, 3) := by decide +kernel
theorem d_P_balance_61 : decode b_P_balance 61 = .ok (.iload_n 1, 1) := by decide +kernel
theorem d_P_balance_62 : decode b_P_balance 62 = .ok (.iload_n 3, 1) := by decide +kernel
theorem d_P_balance_63 : decode b_P_balance 63 = .ok (.isub, 1) := by decide +kernel
theorem d_P_balance_64 : decode b_P_balance 64 = .ok (.istore_n 1, 1) := by decide +kernel
theorem d_P_balance_65 : decode b_P_balance 65 = .ok (.iinc 2 1, 3) := by decide +kernel
theorem d_P_balance_68 : decode b_P_balance 68 = .ok (.iinc 4 1, 3) := by decide +kernel
theorem d_P_balance_71 : decode b_P_balance 71 = .ok (.goto (-53), 3) := by decide +kernel
theorem d_P_balance_74 : decode b_P_balance 74 = .ok (.iinc 3 1, 3) := by decide +kernel
theorem d_P_balance_77 : decode b_P_balance 77 = .ok (.goto (-68), 3) := by decide +kernel
theorem d_P_balance_80 : decode b_P_balance 80 = .ok (.iload_n 2, 1) := by decide +kernel
theorem d_P_balance_81 : decode b_P_balance 81 = .ok (.ireturn, 1) := by decide +kernel
theorem d_T_lent_0 : decode b_T_lent 0 = .ok (.iload_n 1, 1) := by decide +kernel
theorem d_T_lent_1 : decode b_T_lent 1 = .ok (.iload_n 2, 1) := by decide +kernel
theorem d_T_lent_2 : decode b_T_lent 2 = .ok (.invokestatic 153, 3) := by decide +kernel
theorem d_T_lent_5 : decode b_T_lent 5 = .ok (.ifCond .eq 12, 3) := by decide +kernel
theorem d_T_lent_8 : decode b_T_lent 8 = .ok (.iload_n 3, 1) := by decide +kernel
theorem d_T_lent_9 : decode b_T_lent 9 = .ok (.iconst 0, 1) := by decide +kernel
theorem d_T_lent_10 : decode b_T_lent 10 = .ok (.iconst 2, 1) := by decide +kernel
theorem d_T_lent_11 : decode b_T_lent 11 = .ok (.invokestatic 128, 3) := by decide +kernel
theorem d_T_lent_14 : decode b_T_lent 14 = .ok (.ifCond .ne 10, 3) := by decide +kernel
theorem d_T_lent_17 : decode b_T_lent 17 = .ok (.aload_n 0, 1) := by decide +kernel
theorem d_T_lent_18 : decode b_T_lent 18 = .ok (.bipush (-10), 2) := by decide +kernel
theorem d_T_lent_20 : decode b_T_lent 20 = .ok (.invokevirtual 78, 3) := by decide +kernel
theorem d_T_lent_23 : decode b_T_lent 23 = .ok (.ireturn, 1) := by decide +kernel
theorem d_T_lent_24 : decode b_T_lent 24 = .ok (.aload_n 0, 1) := by decide +kernel
theorem d_T_lent_25 : decode b_T_lent 25 = .ok (.invokevirtual 165, 3) := by decide +kernel
theorem d_T_lent_28 : decode b_T_lent 28 = .ok (.pop, 1) := by decide +kernel
theorem d_T_lent_29 : decode b_T_lent 29 = .ok (.aload_n 0, 1) := by decide +kernel
theorem d_T_lent_30 : decode b_T_lent 30 = .ok (.getfield 30, 3) := by decide +kernel
theorem d_T_lent_33 : decode b_T_lent 33 = .ok (.iload_n 1, 1) := by decide +kernel
theorem d_T_lent_34 : decode b_T_lent 34 = .ok (.iload_n 2, 1) := by decide +kernel
theorem d_T_lent_35 : decode b_T_lent 35 = .ok (.invokevirtual 280, 3) := by decide +kernel
theorem d_T_lent_38 : decode b_T_lent 38 = .ok (.iload_n 3, 1) := by decide +kernel
theorem d_T_lent_39 : decode b_T_lent 39 = .ok (.lookupswitch 41 #[(0, 25), (1, 33)], 25) := by decide +kernel
theorem d_T_lent_64 : decode b_T_lent 64 = .ok (.aload_n 0, 1) := by decide +kernel
theorem d_T_lent_65 : decode b_T_lent 65 = .ok (.getfield 30, 3) := by decide +kernel
theorem d_T_lent_68 : decode b_T_lent 68 = .ok (.invokevirtual 283, 3) := by decide +kernel
theorem d_T_lent_71 : decode b_T_lent 71 = .ok (.ireturn, 1) := by decide +kernel
theorem d_T_lent_72 : decode b_T_lent 72 = .ok (.aload_n 0, 1) := by decide +kernel
theorem d_T_lent_73 : decode b_T_lent 73 = .ok (.getfield 30, 3) := by decide +kernel
theorem d_T_lent_76 : decode b_T_lent 76 = .ok (.invokevirtual 286, 3) := by decide +kernel
theorem d_T_lent_79 : decode b_T_lent 79 = .ok (.ireturn, 1) := by decide +kernel
theorem d_T_lent_80 : decode b_T_lent 80 = .ok (.aload_n 0, 1) := by decide +kernel
theorem d_T_lent_81 : decode b_T_lent 81 = .ok (.getfield 30, 3) := by decide +kernel
theorem d_T_lent_84 : decode b_T_lent 84 = .ok (.invokevirtual 289, 3) := by decide +kernel
theorem d_T_lent_87 : decode b_T_lent 87 = .ok (.ireturn, 1) := by decide +kernel
theorem d_G_mostPull_0 : decode b_G_mostPull 0 = .ok (.iconst 0, 1) := by decide +kernel
theorem d_G_mostPull_1 : decode b_G_mostPull 1 = .ok (.istore_n 3, 1) := by decide +kernel
theorem d_G_mostPull_2 : decode b_G_mostPull 2 = .ok (.iconst 0, 1) := by decide +kernel
theorem d_G_mostPull_3 : decode b_G_mostPull 3 = .ok (.istore 4, 2) := by decide +kernel
theorem d_G_mostPull_5 : decode b_G_mostPull 5 = .ok (.iload 4, 2) := by decide +kernel
theorem d_G_mostPull_7 : decode b_G_mostPull 7 = .ok (.aload_n 0, 1) := by decide +kernel
theorem d_G_mostPull_8 : decode b_G_mostPull 8 = .ok (.getfield 34, 3) := by decide +kernel
theorem d_G_mostPull_11 : decode b_G_mostPull 11 = .ok (.getfield 42, 3) := by decide +kernel
theorem d_G_mostPull_14 : decode b_G_mostPull 14 = .ok (.if_icmp .ge 22, 3) := by decide +kernel
theorem d_G_mostPull_17 : decode b_G_mostPull 17 = .ok (.iload_n 3, 1) := by decide +kernel
theorem d_G_mostPull_18 : decode b_G_mostPull 18 = .ok (.aload_n 0, 1) := by decide +kernel
theorem d_G_mostPull_19 : decode b_G_mostPull 19 = .ok (.iload 4, 2) := by decide +kernel
theorem d_G_mostPull_21 : decode b_G_mostPull 21 = .ok (.iload_n 1, 1) := by decide +kernel
theorem d_G_mostPull_22 : decode b_G_mostPull 22 = .ok (.iload_n 2, 1) := by decide +kernel
theorem d_G_mostPull_23 : decode b_G_mostPull 23 = .ok (.invokevirtual 95, 3) := by decide +kernel
theorem d_G_mostPull_26 : decode b_G_mostPull 26 = .ok (.invokestatic 58, 3) := by decide +kernel
theorem d_G_mostPull_29 : decode b_G_mostPull 29 = .ok (.istore_n 3, 1) := by decide +kernel
theorem d_G_mostPull_30 : decode b_G_mostPull 30 = .ok (.iinc 4 1, 3) := by decide +kernel
theorem d_G_mostPull_33 : decode b_G_mostPull 33 = .ok (.goto (-28), 3) := by decide +kernel
theorem d_G_mostPull_36 : decode b_G_mostPull 36 = .ok (.iload_n 3, 1) := by decide +kernel
theorem d_G_mostPull_37 : decode b_G_mostPull 37 = .ok (.ireturn, 1) := by decide +kernel
theorem d_T_pence_0 : decode b_T_pence 0 = .ok (.iload_n 1, 1) := by decide +kernel
theorem d_T_pence_1 : decode b_T_pence 1 = .ok (.iload_n 2, 1) := by decide +kernel
theorem d_T_pence_2 : decode b_T_pence 2 = .ok (.invokestatic 153, 3) := by decide +kernel
theorem d_T_pence_5 : decode b_T_pence 5 = .ok (.ifCond .eq 13, 3) := by decide +kernel
theorem d_T_pence_8 : decode b_T_pence 8 = .ok (.iload_n 3, 1) := by decide +kernel
theorem d_T_pence_9 : decode b_T_pence 9 = .ok (.iconst 1, 1) := by decide +kernel
theorem d_T_pence_10 : decode b_T_pence 10 = .ok (.bipush 20, 2) := by decide +kernel
theorem d_T_pence_12 : decode b_T_pence 12 = .ok (.invokestatic 128, 3) := by decide +kernel
theorem d_T_pence_15 : decode b_T_pence 15 = .ok (.ifCond .ne 10, 3) := by decide +kernel
theorem d_T_pence_18 : decode b_T_pence 18 = .ok (.aload_n 0, 1) := by decide +kernel
theorem d_T_pence_19 : decode b_T_pence 19 = .ok (.bipush (-2), 2) := by decide +kernel
theorem d_T_pence_21 : decode b_T_pence 21 = .ok (.invokevirtual 78, 3) := by decide +kernel
theorem d_T_pence_24 : decode b_T_pence 24 = .ok (.ireturn, 1) := by decide +kernel
theorem d_T_pence_25 : decode b_T_pence 25 = .ok (.iconst 1, 1) := by decide +kernel
theorem d_T_pence_26 : decode b_T_pence 26 = .ok (.aload_n 0, 1) := by decide +kernel
theorem d_T_pence_27 : decode b_T_pence 27 = .ok (.invokevirtual 165, 3) := by decide +kernel
theorem d_T_pence_30 : decode b_T_pence 30 = .ok (.iload_n 1, 1) := by decide +kernel
theorem d_T_pence_31 : decode b_T_pence 31 = .ok (.iload_n 2, 1) := by decide +kernel
theorem d_T_pence_32 : decode b_T_pence 32 = .ok (.invokevirtual 292, 3) := by decide +kernel
theorem d_T_pence_35 : decode b_T_pence 35 = .ok (.invokestatic 295, 3) := by decide +kernel
theorem d_T_pence_38 : decode b_T_pence 38 = .ok (.istore 4, 2) := by decide +kernel
theorem d_T_pence_40 : decode b_T_pence 40 = .ok (.iload 4, 2) := by decide +kernel
theorem d_T_pence_42 : decode b_T_pence 42 = .ok (.iload_n 3, 1) := by decide +kernel
theorem d_T_pence_43 : decode b_T_pence 43 = .ok (.imul, 1) := by decide +kernel
theorem d_T_pence_44 : decode b_T_pence 44 = .ok (.aload_n 0, 1) := by decide +kernel
theorem d_T_pence_45 : decode b_T_pence 45 = .ok (.getfield 10, 3) := by decide +kernel
theorem d_T_pence_48 : decode b_T_pence 48 = .ok (.getfield 156, 3) := by decide +kernel
theorem d_T_pence_51 : decode b_T_pence 51 = .ok (.invokestatic 216, 3) := by decide +kernel
theorem d_T_pence_54 : decode b_T_pence 54 = .ok (.imul, 1) := by decide +kernel
theorem d_T_pence_55 : decode b_T_pence 55 = .ok (.ireturn, 1) := by decide +kernel
theorem d_T_isNight_0 : decode b_T_isNight 0 = .ok (.iload_n 0, 1) := by decide +kernel
theorem d_T_isNight_1 : decode b_T_isNight 1 = .ok (.iconst 0, 1) := by decide +kernel
theorem d_T_isNight_2 : decode b_T_isNight 2 = .ok (.bipush 60, 2) := by decide +kernel
theorem d_T_isNight_4 : decode b_T_isNight 4 = .ok (.invokestatic 128, 3) := by decide +kernel
theorem d_T_isNight_7 : decode b_T_isNight 7 = .ok (.ifCond .eq 25, 3) := by decide +kernel
theorem d_T_isNight_10 : decode b_T_isNight 10 = .ok (.iload_n 1, 1) := by decide +kernel
theorem d_T_isNight_11 : decode b_T_isNight 11 = .ok (.invokestatic 240, 3) := by decide +kernel
theorem d_T_isNight_14 : decode b_T_isNight 14 = .ok (.ifCond .eq 18, 3) := by decide +kernel
theorem d_T_isNight_17 : decode b_T_isNight 17 = .ok (.iload_n 2, 1) := by decide +kernel
theorem d_T_isNight_18 : decode b_T_isNight 18 = .ok (.iconst 0, 1) := by decide +kernel
theorem d_T_isNight_19 : decode b_T_isNight 19 = .ok (.ldc_w 321, 3) := by decide +kernel
theorem d_T_isNight_22 : decode b_T_isNight 22 = .ok (.invokestatic 128, 3) := by decide +kernel
theorem d_T_isNight_25 : decode b_T_isNight 25 = .ok (.ifCond .eq 7, 3) := by decide +kernel
theorem d_T_isNight_28 : decode b_T_isNight 28 = .ok (.iconst 1, 1) := by decide +kernel
theorem d_T_isNight_29 : decode b_T_isNight 29 = .ok (.goto 4, 3) := by decide +kernel
theorem d_T_isNight_32 : decode b_T_isNight 32 = .ok (.iconst 0, 1) := by decide +kernel
theorem d_T_isNight_33 : decode b_T_isNight 33 = .ok (.ireturn, 1) := by decide +kernel
theorem d_P_nextOf_0 : decode b_P_nextOf 0 = .ok (.lload_n 0, 1) := by decide +kernel
theorem d_P_nextOf_1 : decode b_P_nextOf 1 = .ok (.ldc2_w 114, 3) := by decide +kernel
theorem d_P_nextOf_4 : decode b_P_nextOf 4 = .ok (.lmul, 1) := by decide +kernel
theorem d_P_nextOf_5 : decode b_P_nextOf 5 = .ok (.ldc2_w 116, 3) := by decide +kernel
theorem d_P_nextOf_8 : decode b_P_nextOf 8 = .ok (.ladd, 1) := by decide +kernel
theorem d_P_nextOf_9 : decode b_P_nextOf 9 = .ok (.ldc2_w 118, 3) := by decide +kernel
theorem d_P_nextOf_12 : decode b_P_nextOf 12 = .ok (.lrem, 1) := by decide +kernel
theorem d_P_nextOf_13 : decode b_P_nextOf 13 = .ok (.lreturn, 1) := by decide +kernel
theorem d_P_passNight_0 : decode b_P_passNight 0 = .ok (.aload_n 0, 1) := by decide +kernel
theorem d_P_passNight_1 : decode b_P_passNight 1 = .ok (.getfield 29, 3) := by decide +kernel
theorem d_P_passNight_4 : decode b_P_passNight 4 = .ok (.getfield 48, 3) := by decide +kernel
theorem d_P_passNight_7 : decode b_P_passNight 7 = .ok (.invokestatic 102, 3) := by decide +kernel
theorem d_P_passNight_10 : decode b_P_passNight 10 = .ok (.ifCond .eq 7, 3) := by decide +kernel
theorem d_P_passNight_13 : decode b_P_passNight 13 = .ok (.iconst 0, 1) := by decide +kernel
theorem d_P_passNight_14 : decode b_P_passNight 14 = .ok (.goto 4, 3) := by decide +kernel
theorem d_P_passNight_17 : decode b_P_passNight 17 = .ok (.iconst (-1), 1) := by decide +kernel
theorem d_P_passNight_18 : decode b_P_passNight 18 = .ok (.istore 4, 2) := by decide +kernel
theorem d_P_passNight_20 : decode b_P_passNight 20 = .ok (.iload_n 3, 1) := by decide +kernel
theorem d_P_passNight_21 : decode b_P_passNight 21 = .ok (.i2l, 1) := by decide +kernel
theorem d_P_passNight_22 : decode b_P_passNight 22 = .ok (.lstore 5, 2) := by decide +kernel
theorem d_P_passNight_24 : decode b_P_passNight 24 = .ok (.iconst 1, 1) := by decide +kernel
theorem d_P_passNight_25 : decode b_P_passNight 25 = .ok (.istore 7, 2) := by decide +kernel
theorem d_P_passNight_27 : decode b_P_passNight 27 = .ok (.iload 7, 2) := by decide +kernel
theorem d_P_passNight_29 : decode b_P_passNight 29 = .ok (.iload_n 1, 1) := by decide +kernel
theorem d_P_passNight_30 : decode b_P_passNight 30 = .ok (.if_icmp .gt 80, 3) := by decide +kernel
theorem d_P_passNight_33 : decode b_P_passNight 33 = .ok (.lload 5, 2) := by decide +kernel
theorem d_P_passNight_35 : decode b_P_passNight 35 = .ok (.invokestatic 106, 3) := by decide +kernel
theorem d_P_passNight_38 : decode b_P_passNight 38 = .ok (.lstore 5, 2) := by decide +kernel
theorem d_P_passNight_40 : decode b_P_passNight 40 = .ok (.lload 5, 2) := by decide +kernel
theorem d_P_passNight_42 : decode b_P_passNight 42 = .ok (.ldc2_w 110, 3) := by decide +kernel
theorem d_P_passNight_45 : decode b_P_passNight 45 = .ok (.ldiv, 1) := by decide +kernel
theorem d_P_passNight_46 : decode b_P_passNight 46 = .ok (.ldc2_w 112, 3) := by decide +kernel
theorem d_P_passNight_49 : decode b_P_passNight 49 = .ok (.lrem, 1) := by decide +kernel
theorem d_P_passNight_50 : decode b_P_passNight 50 = .ok (.l2i, 1) := by decide +kernel
theorem d_P_passNight_51 : decode b_P_passNight 51 = .ok (.istore 8, 2) := by decide +kernel
theorem d_P_passNight_53 : decode b_P_passNight 53 = .ok (.lload 5, 2) := by decide +kernel
theorem d_P_passNight_55 : decode b_P_passNight 55 = .ok (.invokestatic 106, 3) := by decide +kernel
theorem d_P_passNight_58 : decode b_P_passNight 58 = .ok (.lstore 5, 2) := by decide +kernel
theorem d_P_passNight_60 : decode b_P_passNight 60 = .ok (.aload_n 0, 1) := by decide +kernel
theorem d_P_passNight_61 : decode b_P_passNight 61 = .ok (.getfield 29, 3) := by decide +kernel
theorem d_P_passNight_64 : decode b_P_passNight 64 = .ok (.iload 8, 2) := by decide +kernel
theorem d_P_passNight_66 : decode b_P_passNight 66 = .ok (.lload 5, 2) := by decide +kernel
theorem d_P_passNight_68 : decode b_P_passNight 68 = .ok (.ldc2_w 110, 3) := by decide +kernel
theorem d_P_passNight_71 : decode b_P_passNight 71 = .ok (.ldiv, 1) := by decide +kernel
theorem d_P_passNight_72 : decode b_P_passNight 72 = .ok (.iload_n 2, 1) := by decide +kernel
theorem d_P_passNight_73 : decode b_P_passNight 73 = .ok (.iconst 1, 1) := by decide +kernel
theorem d_P_passNight_74 : decode b_P_passNight 74 = .ok (.iadd, 1) := by decide +kernel
theorem d_P_passNight_75 : decode b_P_passNight 75 = .ok (.i2l, 1) := by decide +kernel
theorem d_P_passNight_76 : decode b_P_passNight 76 = .ok (.lrem, 1) := by decide +kernel
theorem d_P_passNight_77 : decode b_P_passNight 77 = .ok (.l2i, 1) := by decide +kernel
theorem d_P_passNight_78 : decode b_P_passNight 78 = .ok (.invokevirtual 95, 3) := by decide +kernel
theorem d_P_passNight_81 : decode b_P_passNight 81 = .ok (.iload 4, 2) := by decide +kernel
theorem d_P_passNight_83 : decode b_P_passNight 83 = .ok (.iconst (-1), 1) := by decide +kernel
theorem d_P_passNight_84 : decode b_P_passNight 84 = .ok (.if_icmp .ne 20, 3) := by decide +kernel
theorem d_P_passNight_87 : decode b_P_passNight 87 = .ok (.aload_n 0, 1) := by decide +kernel
theorem d_P_passNight_88 : decode b_P_passNight 88 = .ok (.getfield 29, 3) := by decide +kernel
theorem d_P_passNight_91 : decode b_P_passNight 91 = .ok (.getfield 48, 3) := by decide +kernel
theorem d_P_passNight_94 : decode b_P_passNight 94 = .ok (.invokestatic 102, 3) := by decide +kernel
theorem d_P_passNight_97 : decode b_P_passNight 97 = .ok (.ifCond .eq 7, 3) := by decide +kernel
theorem d_P_passNight_100 : decode b_P_passNight 100 = .ok (.iload 7, 2) := by decide +kernel
theorem d_P_passNight_102 : decode b_P_passNight 102 = .ok (.istore 4, 2) := by decide +kernel
theorem d_P_passNight_104 : decode b_P_passNight 104 = .ok (.iinc 7 1, 3) := by decide +kernel
theorem d_P_passNight_107 : decode b_P_passNight 107 = .ok (.goto (-80), 3) := by decide +kernel
theorem d_P_passNight_110 : decode b_P_passNight 110 = .ok (.iload 4, 2) := by decide +kernel
theorem d_P_passNight_112 : decode b_P_passNight 112 = .ok (.ireturn, 1) := by decide +kernel
theorem d_T_night_0 : decode b_T_night 0 = .ok (.iload_n 1, 1) := by decide +kernel
theorem d_T_night_1 : decode b_T_night 1 = .ok (.iload_n 2, 1) := by decide +kernel
theorem d_T_night_2 : decode b_T_night 2 = .ok (.iload_n 3, 1) := by decide +kernel
theorem d_T_night_3 : decode b_T_night 3 = .ok (.invokestatic 300, 3) := by decide +kernel
theorem d_T_night_6 : decode b_T_night 6 = .ok (.ifCond .eq 13, 3) := by decide +kernel
theorem d_T_night_9 : decode b_T_night 9 = .ok (.iload 4, 2) := by decide +kernel
theorem d_T_night_11 : decode b_T_night 11 = .ok (.iconst 0, 1) := by decide +kernel
theorem d_T_night_12 : decode b_T_night 12 = .ok (.iconst 1, 1) := by decide +kernel
theorem d_T_night_13 : decode b_T_night 13 = .ok (.invokestatic 128, 3) := by decide +kernel
theorem d_T_night_16 : decode b_T_night 16 = .ok (.ifCond .ne 10, 3) := by decide +kernel
theorem d_T_night_19 : decode b_T_night 19 = .ok (.aload_n 0, 1) := by decide +kernel
theorem d_T_night_20 : decode b_T_night 20 = .ok (.bipush (-10), 2) := by decide +kernel
theorem d_T_night_22 : decode b_T_night 22 = .ok (.invokevirtual 78, 3) := by decide +kernel
theorem d_T_night_25 : decode b_T_night 25 = .ok (.ireturn, 1) := by decide +kernel
theorem d_T_night_26 : decode b_T_night 26 = .ok (.aload_n 0, 1) := by decide +kernel
theorem d_T_night_27 : decode b_T_night 27 = .ok (.invokevirtual 165, 3) := by decide +kernel
theorem d_T_night_30 : decode b_T_night 30 = .ok (.pop, 1) := by decide +kernel
theorem d_T_night_31 : decode b_T_night 31 = .ok (.aload_n 0, 1) := by decide +kernel
theorem d_T_night_32 : decode b_T_night 32 = .ok (.getfield 30, 3) := by decide +kernel
theorem d_T_night_35 : decode b_T_night 35 = .ok (.iload_n 1, 1) := by decide +kernel
theorem d_T_night_36 : decode b_T_night 36 = .ok (.iload_n 2, 1) := by decide +kernel
theorem d_T_night_37 : decode b_T_night 37 = .ok (.iload_n 3, 1) := by decide +kernel
theorem d_T_night_38 : decode b_T_night 38 = .ok (.invokevirtual 303, 3) := by decide +kernel
theorem d_T_night_41 : decode b_T_night 41 = .ok (.istore 5, 2) := by decide +kernel
theorem d_T_night_43 : decode b_T_night 43 = .ok (.iload 4, 2) := by decide +kernel
theorem d_T_night_45 : decode b_T_night 45 = .ok (.ifCond .ne 8, 3) := by decide +kernel
theorem d_T_night_48 : decode b_T_night 48 = .ok (.iload 5, 2) := by decide +kernel
theorem d_T_night_50 : decode b_T_night 50 = .ok (.goto 13, 3) := by decide +kernel
theorem d_T_night_53 : decode b_T_night 53 = .ok (.aload_n 0, 1) := by decide +kernel
theorem d_T_night_54 : decode b_T_night 54 = .ok (.getfield 21, 3) := by decide +kernel
theorem d_T_night_57 : decode b_T_night 57 = .ok (.getfield 173, 3) := by decide +kernel
theorem d_T_night_60 : decode b_T_night 60 = .ok (.invokestatic 216, 3) := by decide +kernel
theorem d_T_night_63 : decode b_T_night 63 = .ok (.ireturn, 1) := by decide +kernel
theorem d_T_wake_0 : decode b_T_wake 0 = .ok (.iload_n 1, 1) := by decide +kernel
theorem d_T_wake_1 : decode b_T_wake 1 = .ok (.iload_n 2, 1) := by decide +kernel
theorem d_T_wake_2 : decode b_T_wake 2 = .ok (.iload_n 3, 1) := by decide +kernel
theorem d_T_wake_3 : decode b_T_wake 3 = .ok (.invokestatic 300, 3) := by decide +kernel
theorem d_T_wake_6 : decode b_T_wake 6 = .ok (.ifCond .ne 10, 3) := by decide +kernel
theorem d_T_wake_9 : decode b_T_wake 9 = .ok (.aload_n 0, 1) := by decide +kernel
theorem d_T_wake_10 : decode b_T_wake 10 = .ok (.bipush (-10), 2) := by decide +kernel
theorem d_T_wake_12 : decode b_T_wake 12 = .ok (.invokevirtual 78, 3) := by decide +kernel
theorem d_T_wake_15 : decode b_T_wake 15 = .ok (.ireturn, 1) := by decide +kernel
theorem d_T_wake_16 : decode b_T_wake 16 = .ok (.aload_n 0, 1) := by decide +kernel
theorem d_T_wake_17 : decode b_T_wake 17 = .ok (.invokevirtual 165, 3) := by decide +kernel
theorem d_T_wake_20 : decode b_T_wake 20 = .ok (.pop, 1) := by decide +kernel
theorem d_T_wake_21 : decode b_T_wake 21 = .ok (.aload_n 0, 1) := by decide +kernel
theorem d_T_wake_22 : decode b_T_wake 22 = .ok (.getfield 30, 3) := by decide +kernel
theorem d_T_wake_25 : decode b_T_wake 25 = .ok (.iload_n 1, 1) := by decide +kernel
theorem d_T_wake_26 : decode b_T_wake 26 = .ok (.iload_n 2, 1) := by decide +kernel
theorem d_T_wake_27 : decode b_T_wake 27 = .ok (.iload_n 3, 1) := by decide +kernel
theorem d_T_wake_28 : decode b_T_wake 28 = .ok (.invokevirtual 303, 3) := by decide +kernel
theorem d_T_wake_31 : decode b_T_wake 31 = .ok (.pop, 1) := by decide +kernel
theorem d_T_wake_32 : decode b_T_wake 32 = .ok (.aload_n 0, 1) := by decide +kernel
theorem d_T_wake_33 : decode b_T_wake 33 = .ok (.getfield 21, 3) := by decide +kernel
theorem d_T_wake_36 : decode b_T_wake 36 = .ok (.getfield 173, 3) := by decide +kernel
theorem d_T_wake_39 : decode b_T_wake 39 = .ok (.invokestatic 216, 3) := by decide +kernel
theorem d_T_wake_42 : decode b_T_wake 42 = .ok (.aload_n 0, 1) := by decide +kernel
theorem d_T_wake_43 : decode b_T_wake 43 = .ok (.getfield 10, 3) := by decide +kernel
theorem d_T_wake_46 : decode b_T_wake 46 = .ok (.getfield 82, 3) := by decide +kernel
theorem d_T_wake_49 : decode b_T_wake 49 = .ok (.if_icmp .ge 7, 3) := by decide +kernel
theorem d_T_wake_52 : decode b_T_wake 52 = .ok (.iload_n 1, 1) := by decide +kernel
theorem d_T_wake_53 : decode b_T_wake 53 = .ok (.goto 4, 3) := by decide +kernel
theorem d_T_wake_56 : decode b_T_wake 56 = .ok (.iconst (-1), 1) := by decide +kernel
theorem d_T_wake_57 : decode b_T_wake 57 = .ok (.ireturn, 1) := by decide +kernel
theorem d_T_part_0 : decode b_T_part 0 = .ok (.iload_n 1, 1) := by decide +kernel
theorem d_T_part_1 : decode b_T_part 1 = .ok (.lookupswitch 39 #[(0, 27), (1, 33)], 27) := by decide +kernel
theorem d_T_part_28 : decode b_T_part 28 = .ok (.aload_n 0, 1) := by decide +kernel
theorem d_T_part_29 : decode b_T_part 29 = .ok (.getfield 59, 3) := by decide +kernel
theorem d_T_part_32 : decode b_T_part 32 = .ok (.i2l, 1) := by decide +kernel
theorem d_T_part_33 : decode b_T_part 33 = .ok (.lreturn, 1) := by decide +kernel
theorem d_T_part_34 : decode b_T_part 34 = .ok (.aload_n 0, 1) := by decide +kernel
theorem d_T_part_35 : decode b_T_part 35 = .ok (.getfield 62, 3) := by decide +kernel
theorem d_T_part_38 : decode b_T_part 38 = .ok (.i2l, 1) := by decide +kernel
theorem d_T_part_39 : decode b_T_part 39 = .ok (.lreturn, 1) := by decide +kernel
theorem d_T_part_40 : decode b_T_part 40 = .ok (.aload_n 0, 1) := by decide +kernel
theorem d_T_part_41 : decode b_T_part 41 = .ok (.ldc_w 306, 3) := by decide +kernel
theorem d_T_part_44 : decode b_T_part 44 = .ok (.invokevirtual 78, 3) := by decide +kernel
theorem d_T_part_47 : decode b_T_part 47 = .ok (.i2l, 1) := by decide +kernel
theorem d_T_part_48 : decode b_T_part 48 = .ok (.lreturn, 1) := by decide +kernel
theorem d_F_become_0 : decode b_F_become 0 = .ok (.aload_n 0, 1) := by decide +kernel
theorem d_F_become_1 : decode b_F_become 1 = .ok (.aload_n 1, 1) := by decide +kernel
theorem d_F_become_2 : decode b_F_become 2 = .ok (.getfield 35, 3) := by decide +kernel
theorem d_F_become_5 : decode b_F_become 5 = .ok (.putfield 35, 3) := by decide +kernel
theorem d_F_become_8 : decode b_F_become 8 = .ok (.aload_n 0, 1) := by decide +kernel
theorem d_F_become_9 : decode b_F_become 9 = .ok (.aload_n 1, 1) := by decide +kernel
theorem d_F_become_10 : decode b_F_become 10 = .ok (.getfield 39, 3) := by decide +kernel
theorem d_F_become_13 : decode b_F_become 13 = .ok (.putfield 39, 3) := by decide +kernel
theorem d_F_become_16 : decode b_F_become 16 = .ok (.aload_n 0, 1) := by decide +kernel
theorem d_F_become_17 : decode b_F_become 17 = .ok (.aload_n 1, 1) := by decide +kernel
theorem d_F_become_18 : decode b_F_become 18 = .ok (.getfield 42, 3) := by decide +kernel
theorem d_F_become_21 : decode b_F_become 21 = .ok (.putfield 42, 3) := by decide +kernel
theorem d_F_become_24 : decode b_F_become 24 = .ok (.aload_n 0, 1) := by decide +kernel
theorem d_F_become_25 : decode b_F_become 25 = .ok (.aload_n 1, 1) := by decide +kernel
theorem d_F_become_26 : decode b_F_become 26 = .ok (.getfield 45, 3) := by decide +kernel
theorem d_F_become_29 : decode b_F_become 29 = .ok (.putfield 45, 3) := by decide +kernel
theorem d_F_become_32 : decode b_F_become 32 = .ok (.aload_n 0, 1) := by decide +kernel
theorem d_F_become_33 : decode b_F_become 33 = .ok (.aload_n 1, 1) := by decide +kernel
theorem d_F_become_34 : decode b_F_become 34 = .ok (.getfield 48, 3) := by decide +kernel
theorem d_F_become_37 : decode b_F_become 37 = .ok (.putfield 48, 3) := by decide +kernel
theorem d_F_become_40 : decode b_F_become 40 = .ok (.aload_n 1, 1) := by decide +kernel
theorem d_F_become_41 : decode b_F_become 41 = .ok (.getfield 9, 3) := by decide +kernel
theorem d_F_become_44 : decode b_F_become 44 = .ok (.iconst 0, 1) := by decide +kernel
theorem d_F_become_45 : decode b_F_become 45 = .ok (.aload_n 0, 1) := by decide +kernel
theorem d_F_become_46 : decode b_F_become 46 = .ok (.getfield 9, 3) := by decide +kernel
theorem d_F_become_49 : decode b_F_become 49 = .ok (.iconst 0, 1) := by decide +kernel
theorem d_F_become_50 : decode b_F_become 50 = .ok (.bipush 8, 2) := by decide +kernel
theorem d_F_become_52 : decode b_F_become 52 = .ok (.invokestatic 70, 3) := by decide +kernel
theorem d_F_become_55 : decode b_F_become 55 = .ok (.aload_n 1, 1) := by decide +kernel
theorem d_F_become_56 : decode b_F_become 56 = .ok (.getfield 15, 3) := by decide +kernel
theorem d_F_become_59 : decode b_F_become 59 = .ok (.iconst 0, 1) := by decide +kernel
theorem d_F_become_60 : decode b_F_become 60 = .ok (.aload_n 0, 1) := by decide +kernel
theorem d_F_become_61 : decode b_F_become 61 = .ok (.getfield 15, 3) := by decide +kernel
theorem d_F_become_64 : decode b_F_become 64 = .ok (.iconst 0, 1) := by decide +kernel
theorem d_F_become_65 : decode b_F_become 65 = .ok (.bipush 8, 2) := by decide +kernel
theorem d_F_become_67 : decode b_F_become 67 = .ok (.invokestatic 70, 3) := by decide +kernel
theorem d_F_become_70 : decode b_F_become 70 = .ok (.aload_n 1, 1) := by decide +kernel
theorem d_F_become_71 : decode b_F_become 71 = .ok (.getfield 18, 3) := by decide +kernel
theorem d_F_become_74 : decode b_F_become 74 = .ok (.iconst 0, 1) := by decide +kernel
theorem d_F_become_75 : decode b_F_become 75 = .ok (.aload_n 0, 1) := by decide +kernel
theorem d_F_become_76 : decode b_F_become 76 = .ok (.getfield 18, 3) := by decide +kernel
theorem d_F_become_79 : decode b_F_become 79 = .ok (.iconst 0, 1) := by decide +kernel
theorem d_F_become_80 : decode b_F_become 80 = .ok (.bipush 8, 2) := by decide +kernel
theorem d_F_become_82 : decode b_F_become 82 = .ok (.invokestatic 70, 3) := by decide +kernel
theorem d_F_become_85 : decode b_F_become 85 = .ok (.aload_n 1, 1) := by decide +kernel
theorem d_F_become_86 : decode b_F_become 86 = .ok (.getfield 21, 3) := by decide +kernel
theorem d_F_become_89 : decode b_F_become 89 = .ok (.iconst 0, 1) := by decide +kernel
theorem d_F_become_90 : decode b_F_become 90 = .ok (.aload_n 0, 1) := by decide +kernel
theorem d_F_become_91 : decode b_F_become 91 = .ok (.getfield 21, 3) := by decide +kernel
theorem d_F_become_94 : decode b_F_become 94 = .ok (.iconst 0, 1) := by decide +kernel
theorem d_F_become_95 : decode b_F_become 95 = .ok (.bipush 8, 2) := by decide +kernel
theorem d_F_become_97 : decode b_F_become 97 = .ok (.invokestatic 70, 3) := by decide +kernel
theorem d_F_become_100 : decode b_F_become 100 = .ok (.aload_n 1, 1) := by decide +kernel
theorem d_F_become_101 : decode b_F_become 101 = .ok (.getfield 24, 3) := by decide +kernel
theorem d_F_become_104 : decode b_F_become 104 = .ok (.iconst 0, 1) := by decide +kernel
theorem d_F_become_105 : decode b_F_become 105 = .ok (.aload_n 0, 1) := by decide +kernel
theorem d_F_become_106 : decode b_F_become 106 = .ok (.getfield 24, 3) := by decide +kernel
theorem d_F_become_109 : decode b_F_become 109 = .ok (.iconst 0, 1) := by decide +kernel
theorem d_F_become_110 : decode b_F_become 110 = .ok (.bipush 10, 2) := by decide +kernel
theorem d_F_become_112 : decode b_F_become 112 = .ok (.invokestatic 70, 3) := by decide +kernel
theorem d_F_become_115 : decode b_F_become 115 = .ok (.return_, 1) := by decide +kernel
theorem d_T_image_0 : decode b_T_image 0 = .ok (.iload_n 1, 1) := by decide +kernel
theorem d_T_image_1 : decode b_T_image 1 = .ok (.iconst 0, 1) := by decide +kernel
theorem d_T_image_2 : decode b_T_image 2 = .ok (.aload_n 0, 1) := by decide +kernel
theorem d_T_image_3 : decode b_T_image 3 = .ok (.getfield 47, 3) := by decide +kernel
theorem d_T_image_6 : decode b_T_image 6 = .ok (.arraylength, 1) := by decide +kernel
theorem d_T_image_7 : decode b_T_image 7 = .ok (.iconst 1, 1) := by decide +kernel
theorem d_T_image_8 : decode b_T_image 8 = .ok (.isub, 1) := by decide +kernel
theorem d_T_image_9 : decode b_T_image 9 = .ok (.invokestatic 128, 3) := by decide +kernel
theorem d_T_image_12 : decode b_T_image 12 = .ok (.ifCond .ne 10, 3) := by decide +kernel
theorem d_T_image_15 : decode b_T_image 15 = .ok (.aload_n 0, 1) := by decide +kernel
theorem d_T_image_16 : decode b_T_image 16 = .ok (.bipush (-2), 2) := by decide +kernel
theorem d_T_image_18 : decode b_T_image 18 = .ok (.invokevirtual 78, 3) := by decide +kernel
theorem d_T_image_21 : decode b_T_image 21 = .ok (.ireturn, 1) := by decide +kernel
theorem d_T_image_22 : decode b_T_image 22 = .ok (.aload_n 0, 1) := by decide +kernel
theorem d_T_image_23 : decode b_T_image 23 = .ok (.getfield 47, 3) := by decide +kernel
theorem d_T_image_26 : decode b_T_image 26 = .ok (.iload_n 1, 1) := by decide +kernel
theorem d_T_image_27 : decode b_T_image 27 = .ok (.aaload, 1) := by decide +kernel
theorem d_T_image_28 : decode b_T_image 28 = .ok (.aload_n 0, 1) := by decide +kernel
theorem d_T_image_29 : decode b_T_image 29 = .ok (.getfield 10, 3) := by decide +kernel
theorem d_T_image_32 : decode b_T_image 32 = .ok (.invokevirtual 147, 3) := by decide +kernel
theorem d_T_image_35 : decode b_T_image 35 = .ok (.aload_n 0, 1) := by decide +kernel
theorem d_T_image_36 : decode b_T_image 36 = .ok (.getfield 51, 3) := by decide +kernel
theorem d_T_image_39 : decode b_T_image 39 = .ok (.iload_n 1, 1) := by decide +kernel
theorem d_T_image_40 : decode b_T_image 40 = .ok (.iconst 1, 1) := by decide +kernel
theorem d_T_image_41 : decode b_T_image 41 = .ok (.bastore, 1) := by decide +kernel
theorem d_T_image_42 : decode b_T_image 42 = .ok (.iconst 1, 1) := by decide +kernel
theorem d_T_image_43 : decode b_T_image 43 = .ok (.ireturn, 1) := by decide +kernel
theorem d_T_from_0 : decode b_T_from 0 = .ok (.iload_n 1, 1) := by decide +kernel
theorem d_T_from_1 : decode b_T_from 1 = .ok (.iconst 0, 1) := by decide +kernel
theorem d_T_from_2 : decode b_T_from 2 = .ok (.aload_n 0, 1) := by decide +kernel
theorem d_T_from_3 : decode b_T_from 3 = .ok (.getfield 47, 3) := by decide +kernel
theorem d_T_from_6 : decode b_T_from 6 = .ok (.arraylength, 1) := by decide +kernel
theorem d_T_from_7 : decode b_T_from 7 = .ok (.iconst 1, 1) := by decide +kernel
theorem d_T_from_8 : decode b_T_from 8 = .ok (.isub, 1) := by decide +kernel
theorem d_T_from_9 : decode b_T_from 9 = .ok (.invokestatic 128, 3) := by decide +kernel
theorem d_T_from_12 : decode b_T_from 12 = .ok (.ifCond .ne 10, 3) := by decide +kernel
theorem d_T_from_15 : decode b_T_from 15 = .ok (.aload_n 0, 1) := by decide +kernel
theorem d_T_from_16 : decode b_T_from 16 = .ok (.bipush (-2), 2) := by decide +kernel
theorem d_T_from_18 : decode b_T_from 18 = .ok (.invokevirtual 78, 3) := by decide +kernel
theorem d_T_from_21 : decode b_T_from 21 = .ok (.ireturn, 1) := by decide +kernel
theorem d_T_from_22 : decode b_T_from 22 = .ok (.aload_n 0, 1) := by decide +kernel
theorem d_T_from_23 : decode b_T_from 23 = .ok (.getfield 51, 3) := by decide +kernel
theorem d_T_from_26 : decode b_T_from 26 = .ok (.iload_n 1, 1) := by decide +kernel
theorem d_T_from_27 : decode b_T_from 27 = .ok (.baload, 1) := by decide +kernel
theorem d_T_from_28 : decode b_T_from 28 = .ok (.ifCond .ne 8, 3) := by decide +kernel
theorem d_T_from_31 : decode b_T_from 31 = .ok (.aload_n 0, 1) := by decide +kernel
theorem d_T_from_32 : decode b_T_from 32 = .ok (.invokevirtual 113, 3) := by decide +kernel
theorem d_T_from_35 : decode b_T_from 35 = .ok (.ireturn, 1) := by decide +kernel
theorem d_T_from_36 : decode b_T_from 36 = .ok (.aload_n 0, 1) := by decide +kernel
theorem d_T_from_37 : decode b_T_from 37 = .ok (.getfield 10, 3) := by decide +kernel
theorem d_T_from_40 : decode b_T_from 40 = .ok (.aload_n 0, 1) := by decide +kernel
theorem d_T_from_41 : decode b_T_from 41 = .ok (.getfield 47, 3) := by decide +kernel
theorem d_T_from_44 : decode b_T_from 44 = .ok (.iload_n 1, 1) := by decide +kernel
theorem d_T_from_45 : decode b_T_from 45 = .ok (.aaload, 1) := by decide +kernel
theorem d_T_from_46 : decode b_T_from 46 = .ok (.invokevirtual 147, 3) := by decide +kernel
theorem d_T_from_49 : decode b_T_from 49 = .ok (.iconst 1, 1) := by decide +kernel
theorem d_T_from_50 : decode b_T_from 50 = .ok (.ireturn, 1) := by decide +kernel
theorem d_T_status_0 : decode b_T_status 0 = .ok (.iload_n 1, 1) := by decide +kernel
theorem d_T_status_1 : decode b_T_status 1 = .ok (.tableswitch 42 0 2 #[27, 32, 37], 27) := by decide +kernel
theorem d_T_status_28 : decode b_T_status 28 = .ok (.aload_n 0, 1) := by decide +kernel
theorem d_T_status_29 : decode b_T_status 29 = .ok (.getfield 65, 3) := by decide +kernel
theorem d_T_status_32 : decode b_T_status 32 = .ok (.ireturn, 1) := by decide +kernel
theorem d_T_status_33 : decode b_T_status 33 = .ok (.aload_n 0, 1) := by decide +kernel
theorem d_T_status_34 : decode b_T_status 34 = .ok (.getfield 68, 3) := by decide +kernel
theorem d_T_status_37 : decode b_T_status 37 = .ok (.ireturn, 1) := by decide +kernel
theorem d_T_status_38 : decode b_T_status 38 = .ok (.aload_n 0, 1) := by decide +kernel
theorem d_T_status_39 : decode b_T_status 39 = .ok (.getfield 71, 3) := by decide +kernel
theorem d_T_status_42 : decode b_T_status 42 = .ok (.ireturn, 1) := by decide +kernel
theorem d_T_status_43 : decode b_T_status 43 = .ok (.aload_n 0, 1) := by decide +kernel
theorem d_T_status_44 : decode b_T_status 44 = .ok (.iconst (-1), 1) := by decide +kernel
theorem d_T_status_45 : decode b_T_status 45 = .ok (.invokevirtual 78, 3) := by decide +kernel
theorem d_T_status_48 : decode b_T_status 48 = .ok (.ireturn, 1) := by decide +kernel
theorem d_T_counted_0 : decode b_T_counted 0 = .ok (.iload_n 1, 1) := by decide +kernel
theorem d_T_counted_1 : decode b_T_counted 1 = .ok (.tableswitch 78 0 4 #[35, 43, 54, 62, 70], 35) := by decide +kernel
theorem d_T_counted_36 : decode b_T_counted 36 = .ok (.aload_n 0, 1) := by decide +kernel
theorem d_T_counted_37 : decode b_T_counted 37 = .ok (.getfield 10, 3) := by decide +kernel
theorem d_T_counted_40 : decode b_T_counted 40 = .ok (.getfield 82, 3) := by decide +kernel
theorem d_T_counted_43 : decode b_T_counted 43 = .ok (.ireturn, 1) := by decide +kernel
theorem d_T_counted_44 : decode b_T_counted 44 = .ok (.aload_n 0, 1) := by decide +kernel
theorem d_T_counted_45 : decode b_T_counted 45 = .ok (.getfield 10, 3) := by decide +kernel
theorem d_T_counted_48 : decode b_T_counted 48 = .ok (.getfield 156, 3) := by decide +kernel
theorem d_T_counted_51 : decode b_T_counted 51 = .ok (.invokestatic 216, 3) := by decide +kernel
theorem d_T_counted_54 : decode b_T_counted 54 = .ok (.ireturn, 1) := by decide +kernel
theorem d_T_counted_55 : decode b_T_counted 55 = .ok (.aload_n 0, 1) := by decide +kernel
theorem d_T_counted_56 : decode b_T_counted 56 = .ok (.getfield 10, 3) := by decide +kernel
theorem d_T_counted_59 : decode b_T_counted 59 = .ok (.getfield 104, 3) := by decide +kernel
theorem d_T_counted_62 : decode b_T_counted 62 = .ok (.ireturn, 1) := by decide +kernel
theorem d_T_counted_63 : decode b_T_counted 63 = .ok (.aload_n 0, 1) := by decide +kernel
theorem d_T_counted_64 : decode b_T_counted 64 = .ok (.getfield 10, 3) := by decide +kernel
theorem d_T_counted_67 : decode b_T_counted 67 = .ok (.getfield 314, 3) := by decide +kernel
theorem d_T_counted_70 : decode b_T_counted 70 = .ok (.ireturn, 1) := by decide +kernel
theorem d_T_counted_71 : decode b_T_counted 71 = .ok (.aload_n 0, 1) := by decide +kernel
theorem d_T_counted_72 : decode b_T_counted 72 = .ok (.getfield 10, 3) := by decide +kernel
theorem d_T_counted_75 : decode b_T_counted 75 = .ok (.getfield 315, 3) := by decide +kernel
theorem d_T_counted_78 : decode b_T_counted 78 = .ok (.ireturn, 1) := by decide +kernel
theorem d_T_counted_79 : decode b_T_counted 79 = .ok (.aload_n 0, 1) := by decide +kernel
theorem d_T_counted_80 : decode b_T_counted 80 = .ok (.getfield 55, 3) := by decide +kernel
theorem d_T_counted_83 : decode b_T_counted 83 = .ok (.ireturn, 1) := by decide +kernel
theorem d_T_count_0 : decode b_T_count 0 = .ok (.iload_n 1, 1) := by decide +kernel
theorem d_T_count_1 : decode b_T_count 1 = .ok (.iconst 0, 1) := by decide +kernel
theorem d_T_count_2 : decode b_T_count 2 = .ok (.iconst 5, 1) := by decide +kernel
theorem d_T_count_3 : decode b_T_count 3 = .ok (.invokestatic 128, 3) := by decide +kernel
theorem d_T_count_6 : decode b_T_count 6 = .ok (.ifCond .eq 11, 3) := by decide +kernel
theorem d_T_count_9 : decode b_T_count 9 = .ok (.aload_n 0, 1) := by decide +kernel
theorem d_T_count_10 : decode b_T_count 10 = .ok (.iload_n 1, 1) := by decide +kernel
theorem d_T_count_11 : decode b_T_count 11 = .ok (.invokevirtual 307, 3) := by decide +kernel
theorem d_T_count_14 : decode b_T_count 14 = .ok (.goto 9, 3) := by decide +kernel
theorem d_T_count_17 : decode b_T_count 17 = .ok (.aload_n 0, 1) := by decide +kernel
theorem d_T_count_18 : decode b_T_count 18 = .ok (.bipush (-2), 2) := by decide +kernel
theorem d_T_count_20 : decode b_T_count 20 = .ok (.invokevirtual 78, 3) := by decide +kernel
theorem d_T_count_23 : decode b_T_count 23 = .ok (.ireturn, 1) := by decide +kernel
theorem d_T_digest_0 : decode b_T_digest 0 = .ok (.ldc2_w 310, 3) := by decide +kernel
theorem d_T_digest_3 : decode b_T_digest 3 = .ok (.lstore_n 1, 1) := by decide +kernel
theorem d_T_digest_4 : decode b_T_digest 4 = .ok (.iconst 0, 1) := by decide +kernel
theorem d_T_digest_5 : decode b_T_digest 5 = .ok (.istore_n 3, 1) := by decide +kernel
theorem d_T_digest_6 : decode b_T_digest 6 = .ok (.iload_n 3, 1) := by decide +kernel
theorem d_T_digest_7 : decode b_T_digest 7 = .ok (.iconst 5, 1) := by decide +kernel
theorem d_T_digest_8 : decode b_T_digest 8 = .ok (.if_icmp .gt 22, 3) := by decide +kernel
theorem d_T_digest_11 : decode b_T_digest 11 = .ok (.ldc2_w 312, 3) := by decide +kernel
theorem d_T_digest_14 : decode b_T_digest 14 = .ok (.lload_n 1, 1) := by decide +kernel
theorem d_T_digest_15 : decode b_T_digest 15 = .ok (.lmul, 1) := by decide +kernel
theorem d_T_digest_16 : decode b_T_digest 16 = .ok (.aload_n 0, 1) := by decide +kernel
theorem d_T_digest_17 : decode b_T_digest 17 = .ok (.iload_n 3, 1) := by decide +kernel
theorem d_T_digest_18 : decode b_T_digest 18 = .ok (.invokevirtual 307, 3) := by decide +kernel
theorem d_T_digest_21 : decode b_T_digest 21 = .ok (.i2l, 1) := by decide +kernel
theorem d_T_digest_22 : decode b_T_digest 22 = .ok (.ladd, 1) := by decide +kernel
theorem d_T_digest_23 : decode b_T_digest 23 = .ok (.lstore_n 1, 1) := by decide +kernel
theorem d_T_digest_24 : decode b_T_digest 24 = .ok (.iinc 3 1, 3) := by decide +kernel
theorem d_T_digest_27 : decode b_T_digest 27 = .ok (.goto (-21), 3) := by decide +kernel
theorem d_T_digest_30 : decode b_T_digest 30 = .ok (.iconst 0, 1) := by decide +kernel
theorem d_T_digest_31 : decode b_T_digest 31 = .ok (.istore_n 3, 1) := by decide +kernel
theorem d_T_digest_32 : decode b_T_digest 32 = .ok (.iload_n 3, 1) := by decide +kernel
theorem d_T_digest_33 : decode b_T_digest 33 = .ok (.aload_n 0, 1) := by decide +kernel
theorem d_T_digest_34 : decode b_T_digest 34 = .ok (.getfield 10, 3) := by decide +kernel
theorem d_T_digest_37 : decode b_T_digest 37 = .ok (.getfield 82, 3) := by decide +kernel
theorem d_T_digest_40 : decode b_T_digest 40 = .ok (.if_icmp .ge 87, 3) := by decide +kernel
theorem d_T_digest_43 : decode b_T_digest 43 = .ok (.ldc2_w 312, 3) := by decide +kernel
theorem d_T_digest_46 : decode b_T_digest 46 = .ok (.lload_n 1, 1) := by decide +kernel
theorem d_T_digest_47 : decode b_T_digest 47 = .ok (.lmul, 1) := by decide +kernel
theorem d_T_digest_48 : decode b_T_digest 48 = .ok (.aload_n 0, 1) := by decide +kernel
theorem d_T_digest_49 : decode b_T_digest 49 = .ok (.getfield 10, 3) := by decide +kernel
theorem d_T_digest_52 : decode b_T_digest 52 = .ok (.getfield 93, 3) := by decide +kernel
theorem d_T_digest_55 : decode b_T_digest 55 = .ok (.iload_n 3, 1) := by decide +kernel
theorem d_T_digest_56 : decode b_T_digest 56 = .ok (.iaload, 1) := by decide +kernel
theorem d_T_digest_57 : decode b_T_digest 57 = .ok (.i2l, 1) := by decide +kernel
theorem d_T_digest_58 : decode b_T_digest 58 = .ok (.ladd, 1) := by decide +kernel
theorem d_T_digest_59 : decode b_T_digest 59 = .ok (.lstore_n 1, 1) := by decide +kernel
theorem d_T_digest_60 : decode b_T_digest 60 = .ok (.ldc2_w 312, 3) := by decide +kernel
theorem d_T_digest_63 : decode b_T_digest 63 = .ok (.lload_n 1, 1) := by decide +kernel
theorem d_T_digest_64 : decode b_T_digest 64 = .ok (.lmul, 1) := by decide +kernel
theorem d_T_digest_65 : decode b_T_digest 65 = .ok (.aload_n 0, 1) := by decide +kernel
theorem d_T_digest_66 : decode b_T_digest 66 = .ok (.getfield 10, 3) := by decide +kernel
theorem d_T_digest_69 : decode b_T_digest 69 = .ok (.getfield 191, 3) := by decide +kernel
theorem d_T_digest_72 : decode b_T_digest 72 = .ok (.iload_n 3, 1) := by decide +kernel
theorem d_T_digest_73 : decode b_T_digest 73 = .ok (.iaload, 1) := by decide +kernel
theorem d_T_digest_74 : decode b_T_digest 74 = .ok (.i2l, 1) := by decide +kernel
theorem d_T_digest_75 : decode b_T_digest 75 = .ok (.ladd, 1) := by decide +kernel
theorem d_T_digest_76 : decode b_T_digest 76 = .ok (.lstore_n 1, 1) := by decide +kernel
theorem d_T_digest_77 : decode b_T_digest 77 = .ok (.ldc2_w 312, 3) := by decide +kernel
theorem d_T_digest_80 : decode b_T_digest 80 = .ok (.lload_n 1, 1) := by decide +kernel
theorem d_T_digest_81 : decode b_T_digest 81 = .ok (.lmul, 1) := by decide +kernel
theorem d_T_digest_82 : decode b_T_digest 82 = .ok (.aload_n 0, 1) := by decide +kernel
theorem d_T_digest_83 : decode b_T_digest 83 = .ok (.getfield 10, 3) := by decide +kernel
theorem d_T_digest_86 : decode b_T_digest 86 = .ok (.getfield 194, 3) := by decide +kernel
theorem d_T_digest_89 : decode b_T_digest 89 = .ok (.iload_n 3, 1) := by decide +kernel
theorem d_T_digest_90 : decode b_T_digest 90 = .ok (.iaload, 1) := by decide +kernel
theorem d_T_digest_91 : decode b_T_digest 91 = .ok (.i2l, 1) := by decide +kernel
theorem d_T_digest_92 : decode b_T_digest 92 = .ok (.ladd, 1) := by decide +kernel
theorem d_T_digest_93 : decode b_T_digest 93 = .ok (.lstore_n 1, 1) := by decide +kernel
theorem d_T_digest_94 : decode b_T_digest 94 = .ok (.ldc2_w 312, 3) := by decide +kernel
theorem d_T_digest_97 : decode b_T_digest 97 = .ok (.lload_n 1, 1) := by decide +kernel
theorem d_T_digest_98 : decode b_T_digest 98 = .ok (.lmul, 1) := by decide +kernel
theorem d_T_digest_99 : decode b_T_digest 99 = .ok (.aload_n 0, 1) := by decide +kernel
theorem d_T_digest_100 : decode b_T_digest 100 = .ok (.getfield 10, 3) := by decide +kernel
theorem d_T_digest_103 : decode b_T_digest 103 = .ok (.getfield 156, 3) := by decide +kernel
theorem d_T_digest_106 : decode b_T_digest 106 = .ok (.iload_n 3, 1) := by decide +kernel
theorem d_T_digest_107 : decode b_T_digest 107 = .ok (.invokestatic 180, 3) := by decide +kernel
theorem d_T_digest_110 : decode b_T_digest 110 = .ok (.ifCond .eq 7, 3) := by decide +kernel
theorem d_T_digest_113 : decode b_T_digest 113 = .ok (.iconst 1, 1) := by decide +kernel
theorem d_T_digest_114 : decode b_T_digest 114 = .ok (.goto 4, 3) := by decide +kernel
theorem d_T_digest_117 : decode b_T_digest 117 = .ok (.iconst 0, 1) := by decide +kernel
theorem d_T_digest_118 : decode b_T_digest 118 = .ok (.i2l, 1) := by decide +kernel
theorem d_T_digest_119 : decode b_T_digest 119 = .ok (.ladd, 1) := by decide +kernel
theorem d_T_digest_120 : decode b_T_digest 120 = .ok (.lstore_n 1, 1) := by decide +kernel
theorem d_T_digest_121 : decode b_T_digest 121 = .ok (.iinc 3 1, 3) := by decide +kernel
theorem d_T_digest_124 : decode b_T_digest 124 = .ok (.goto (-92), 3) := by decide +kernel
theorem d_T_digest_127 : decode b_T_digest 127 = .ok (.iconst 0, 1) := by decide +kernel
theorem d_T_digest_128 : decode b_T_digest 128 = .ok (.istore_n 3, 1) := by decide +kernel
theorem d_T_digest_129 : decode b_T_digest 129 = .ok (.iload_n 3, 1) := by decide +kernel
theorem d_T_digest_130 : decode b_T_digest 130 = .ok (.bipush 8, 2) := by decide +kernel
theorem d_T_digest_132 : decode b_T_digest 132 = .ok (.if_icmp .ge 26, 3) := by decide +kernel
theorem d_T_digest_135 : decode b_T_digest 135 = .ok (.ldc2_w 312, 3) := by decide +kernel
theorem d_T_digest_138 : decode b_T_digest 138 = .ok (.lload_n 1, 1) := by decide +kernel
theorem d_T_digest_139 : decode b_T_digest 139 = .ok (.lmul, 1) := by decide +kernel
theorem d_T_digest_140 : decode b_T_digest 140 = .ok (.aload_n 0, 1) := by decide +kernel
theorem d_T_digest_141 : decode b_T_digest 141 = .ok (.getfield 10, 3) := by decide +kernel
theorem d_T_digest_144 : decode b_T_digest 144 = .ok (.getfield 125, 3) := by decide +kernel
theorem d_T_digest_147 : decode b_T_digest 147 = .ok (.iload_n 3, 1) := by decide +kernel
theorem d_T_digest_148 : decode b_T_digest 148 = .ok (.iaload, 1) := by decide +kernel
theorem d_T_digest_149 : decode b_T_digest 149 = .ok (.i2l, 1) := by decide +kernel
theorem d_T_digest_150 : decode b_T_digest 150 = .ok (.ladd, 1) := by decide +kernel
theorem d_T_digest_151 : decode b_T_digest 151 = .ok (.lstore_n 1, 1) := by decide +kernel
theorem d_T_digest_152 : decode b_T_digest 152 = .ok (.iinc 3 1, 3) := by decide +kernel
theorem d_T_digest_155 : decode b_T_digest 155 = .ok (.goto (-26), 3) := by decide +kernel
theorem d_T_digest_158 : decode b_T_digest 158 = .ok (.ldc2_w 312, 3) := by decide +kernel
theorem d_T_digest_161 : decode b_T_digest 161 = .ok (.lload_n 1, 1) := by decide +kernel
theorem d_T_digest_162 : decode b_T_digest 162 = .ok (.lmul, 1) := by decide +kernel
theorem d_T_digest_163 : decode b_T_digest 163 = .ok (.aload_n 0, 1) := by decide +kernel
theorem d_T_digest_164 : decode b_T_digest 164 = .ok (.getfield 59, 3) := by decide +kernel
theorem d_T_digest_167 : decode b_T_digest 167 = .ok (.i2l, 1) := by decide +kernel
theorem d_T_digest_168 : decode b_T_digest 168 = .ok (.ladd, 1) := by decide +kernel
theorem d_T_digest_169 : decode b_T_digest 169 = .ok (.lstore_n 1, 1) := by decide +kernel
theorem d_T_digest_170 : decode b_T_digest 170 = .ok (.ldc2_w 312, 3) := by decide +kernel
theorem d_T_digest_173 : decode b_T_digest 173 = .ok (.lload_n 1, 1) := by decide +kernel
theorem d_T_digest_174 : decode b_T_digest 174 = .ok (.lmul, 1) := by decide +kernel
theorem d_T_digest_175 : decode b_T_digest 175 = .ok (.aload_n 0, 1) := by decide +kernel
theorem d_T_digest_176 : decode b_T_digest 176 = .ok (.getfield 62, 3) := by decide +kernel
theorem d_T_digest_179 : decode b_T_digest 179 = .ok (.i2l, 1) := by decide +kernel
theorem d_T_digest_180 : decode b_T_digest 180 = .ok (.ladd, 1) := by decide +kernel
theorem d_T_digest_181 : decode b_T_digest 181 = .ok (.lreturn, 1) := by decide +kernel
theorem d_M_in_0 : decode b_M_in 0 = .ok (.lload_n 0, 1) := by decide +kernel
theorem d_M_in_1 : decode b_M_in 1 = .ok (.lload_n 2, 1) := by decide +kernel
theorem d_M_in_2 : decode b_M_in 2 = .ok (.lcmp, 1) := by decide +kernel
theorem d_M_in_3 : decode b_M_in 3 = .ok (.ifCond .lt 14, 3) := by decide +kernel
theorem d_M_in_6 : decode b_M_in 6 = .ok (.lload_n 0, 1) := by decide +kernel
theorem d_M_in_7 : decode b_M_in 7 = .ok (.lload 4, 2) := by decide +kernel
theorem d_M_in_9 : decode b_M_in 9 = .ok (.lcmp, 1) := by decide +kernel
theorem d_M_in_10 : decode b_M_in 10 = .ok (.ifCond .gt 7, 3) := by decide +kernel
theorem d_M_in_13 : decode b_M_in 13 = .ok (.iconst 1, 1) := by decide +kernel
theorem d_M_in_14 : decode b_M_in 14 = .ok (.goto 4, 3) := by decide +kernel
theorem d_M_in_17 : decode b_M_in 17 = .ok (.iconst 0, 1) := by decide +kernel
theorem d_M_in_18 : decode b_M_in 18 = .ok (.ireturn, 1) := by decide +kernel
theorem d_M_has_0 : decode b_M_has 0 = .ok (.iload_n 0, 1) := by decide +kernel
theorem d_M_has_1 : decode b_M_has 1 = .ok (.iload_n 1, 1) := by decide +kernel
theorem d_M_has_2 : decode b_M_has 2 = .ok (.ishr, 1) := by decide +kernel
theorem d_M_has_3 : decode b_M_has 3 = .ok (.iconst 1, 1) := by decide +kernel
theorem d_M_has_4 : decode b_M_has 4 = .ok (.iand, 1) := by decide +kernel
theorem d_M_has_5 : decode b_M_has 5 = .ok (.iconst 1, 1) := by decide +kernel
theorem d_M_has_6 : decode b_M_has 6 = .ok (.if_icmp .ne 7, 3) := by decide +kernel
theorem d_M_has_9 : decode b_M_has 9 = .ok (.iconst 1, 1) := by decide +kernel
theorem d_M_has_10 : decode b_M_has 10 = .ok (.goto 4, 3) := by decide +kernel
theorem d_M_has_13 : decode b_M_has 13 = .ok (.iconst 0, 1) := by decide +kernel
theorem d_M_has_14 : decode b_M_has 14 = .ok (.ireturn, 1) := by decide +kernel
theorem d_M_bits_0 : decode b_M_bits 0 = .ok (.iconst 0, 1) := by decide +kernel
theorem d_M_bits_1 : decode b_M_bits 1 = .ok (.istore_n 1, 1) := by decide +kernel
theorem d_M_bits_2 : decode b_M_bits 2 = .ok (.iconst 0, 1) := by decide +kernel
theorem d_M_bits_3 : decode b_M_bits 3 = .ok (.istore_n 2, 1) := by decide +kernel
theorem d_M_bits_4 : decode b_M_bits 4 = .ok (.iload_n 2, 1) := by decide +kernel
theorem d_M_bits_5 : decode b_M_bits 5 = .ok (.bipush 8, 2) := by decide +kernel
theorem d_M_bits_7 : decode b_M_bits 7 = .ok (.if_icmp .ge 17, 3) := by decide +kernel
theorem d_M_bits_10 : decode b_M_bits 10 = .ok (.iload_n 1, 1) := by decide +kernel
theorem d_M_bits_11 : decode b_M_bits 11 = .ok (.iload_n 0, 1) := by decide +kernel
theorem d_M_bits_12 : decode b_M_bits 12 = .ok (.iload_n 2, 1) := by decide +kernel
theorem d_M_bits_13 : decode b_M_bits 13 = .ok (.ishr, 1) := by decide +kernel
theorem d_M_bits_14 : decode b_M_bits 14 = .ok (.iconst 1, 1) := by decide +kernel
theorem d_M_bits_15 : decode b_M_bits 15 = .ok (.iand, 1) := by decide +kernel
theorem d_M_bits_16 : decode b_M_bits 16 = .ok (.iadd, 1) := by decide +kernel
theorem d_M_bits_17 : decode b_M_bits 17 = .ok (.istore_n 1, 1) := by decide +kernel
theorem d_M_bits_18 : decode b_M_bits 18 = .ok (.iinc 2 1, 3) := by decide +kernel
theorem d_M_bits_21 : decode b_M_bits 21 = .ok (.goto (-17), 3) := by decide +kernel
theorem d_M_bits_24 : decode b_M_bits 24 = .ok (.iload_n 1, 1) := by decide +kernel
theorem d_M_bits_25 : decode b_M_bits 25 = .ok (.ireturn, 1) := by decide +kernel
theorem d_M_refuse_0 : decode b_M_refuse 0 = .ok (.aload_n 0, 1) := by decide +kernel
theorem d_M_refuse_1 : decode b_M_refuse 1 = .ok (.getfield 7, 3) := by decide +kernel
theorem d_M_refuse_4 : decode b_M_refuse 4 = .ok (.iload_n 1, 1) := by decide +kernel
theorem d_M_refuse_5 : decode b_M_refuse 5 = .ok (.dup2, 1) := by decide +kernel
theorem d_M_refuse_6 : decode b_M_refuse 6 = .ok (.iaload, 1) := by decide +kernel
theorem d_M_refuse_7 : decode b_M_refuse 7 = .ok (.iconst 1, 1) := by decide +kernel
theorem d_M_refuse_8 : decode b_M_refuse 8 = .ok (.iadd, 1) := by decide +kernel
theorem d_M_refuse_9 : decode b_M_refuse 9 = .ok (.iastore, 1) := by decide +kernel
theorem d_M_refuse_10 : decode b_M_refuse 10 = .ok (.iload_n 2, 1) := by decide +kernel
theorem d_M_refuse_11 : decode b_M_refuse 11 = .ok (.ireturn, 1) := by decide +kernel
theorem d_M_bad_0 : decode b_M_bad 0 = .ok (.aload_n 0, 1) := by decide +kernel
theorem d_M_bad_1 : decode b_M_bad 1 = .ok (.iconst 0, 1) := by decide +kernel
theorem d_M_bad_2 : decode b_M_bad 2 = .ok (.bipush (-2), 2) := by decide +kernel
theorem d_M_bad_4 : decode b_M_bad 4 = .ok (.invokevirtual 11, 3) := by decide +kernel
theorem d_M_bad_7 : decode b_M_bad 7 = .ok (.ireturn, 1) := by decide +kernel
theorem d_M_badTen_0 : decode b_M_badTen 0 = .ok (.aload_n 0, 1) := by decide +kernel
theorem d_M_badTen_1 : decode b_M_badTen 1 = .ok (.iconst 0, 1) := by decide +kernel
theorem d_M_badTen_2 : decode b_M_badTen 2 = .ok (.bipush (-10), 2) := by decide +kernel
theorem d_M_badTen_4 : decode b_M_badTen 4 = .ok (.invokevirtual 11, 3) := by decide +kernel
theorem d_M_badTen_7 : decode b_M_badTen 7 = .ok (.ireturn, 1) := by decide +kernel
theorem d_M_no_0 : decode b_M_no 0 = .ok (.aload_n 0, 1) := by decide +kernel
theorem d_M_no_1 : decode b_M_no 1 = .ok (.iconst 1, 1) := by decide +kernel
theorem d_M_no_2 : decode b_M_no 2 = .ok (.bipush (-3), 2) := by decide +kernel
theorem d_M_no_4 : decode b_M_no 4 = .ok (.invokevirtual 11, 3) := by decide +kernel
theorem d_M_no_7 : decode b_M_no 7 = .ok (.ireturn, 1) := by decide +kernel
theorem d_M_pitch_0 : decode b_M_pitch 0 = .ok (.iconst 0, 1) := by decide +kernel
theorem d_M_pitch_1 : decode b_M_pitch 1 = .ok (.istore_n 2, 1) := by decide +kernel
theorem d_M_pitch_2 : decode b_M_pitch 2 = .ok (.iload_n 2, 1) := by decide +kernel
theorem d_M_pitch_3 : decode b_M_pitch 3 = .ok (.bipush 47, 2) := by decide +kernel
theorem d_M_pitch_5 : decode b_M_pitch 5 = .ok (.if_icmp .ge 64, 3) := by decide +kernel
theorem d_M_pitch_8 : decode b_M_pitch 8 = .ok (.aload_n 0, 1) := by decide +kernel
theorem d_M_pitch_9 : decode b_M_pitch 9 = .ok (.getfield 21, 3) := by decide +kernel
theorem d_M_pitch_12 : decode b_M_pitch 12 = .ok (.iload_n 2, 1) := by decide +kernel
theorem d_M_pitch_13 : decode b_M_pitch 13 = .ok (.iload_n 2, 1) := by decide +kernel
theorem d_M_pitch_14 : decode b_M_pitch 14 = .ok (.bipush 13, 2) := by decide +kernel
theorem d_M_pitch_16 : decode b_M_pitch 16 = .ok (.if_icmp .lt 13, 3) := by decide +kernel
theorem d_M_pitch_19 : decode b_M_pitch 19 = .ok (.iload_n 2, 1) := by decide +kernel
theorem d_M_pitch_20 : decode b_M_pitch 20 = .ok (.bipush 21, 2) := by decide +kernel
theorem d_M_pitch_22 : decode b_M_pitch 22 = .ok (.if_icmp .ge 7, 3) := by decide +kernel
theorem d_M_pitch_25 : decode b_M_pitch 25 = .ok (.iconst 5, 1) := by decide +kernel
theorem d_M_pitch_26 : decode b_M_pitch 26 = .ok (.goto 36, 3) := by decide +kernel
theorem d_M_pitch_29 : decode b_M_pitch 29 = .ok (.iload_n 2, 1) := by decide +kernel
theorem d_M_pitch_30 : decode b_M_pitch 30 = .ok (.bipush 21, 2) := by decide +kernel
theorem d_M_pitch_32 : decode b_M_pitch 32 = .ok (.if_icmp .lt 13, 3) := by decide +kernel
theorem d_M_pitch_35 : decode b_M_pitch 35 = .ok (.iload_n 2, 1) := by decide +kernel
theorem d_M_pitch_36 : decode b_M_pitch 36 = .ok (.bipush 29, 2) := by decide +kernel
theorem d_M_pitch_38 : decode b_M_pitch 38 = .ok (.if_icmp .ge 7, 3) := by decide +kernel
theorem d_M_pitch_41 : decode b_M_pitch 41 = .ok (.iconst 4, 1) := by decide +kernel
theorem d_M_pitch_42 : decode b_M_pitch 42 = .ok (.goto 20, 3) := by decide +kernel
theorem d_M_pitch_45 : decode b_M_pitch 45 = .ok (.iload_n 2, 1) := by decide +kernel
theorem d_M_pitch_46 : decode b_M_pitch 46 = .ok (.bipush 29, 2) := by decide +kernel
theorem d_M_pitch_48 : decode b_M_pitch 48 = .ok (.if_icmp .lt 13, 3) := by decide +kernel
theorem d_M_pitch_51 : decode b_M_pitch 51 = .ok (.iload_n 2, 1) := by decide +kernel
theorem d_M_pitch_52 : decode b_M_pitch 52 = .ok (.bipush 37, 2) := by decide +kernel
theorem d_M_pitch_54 : decode b_M_pitch 54 = .ok (.if_icmp .ge 7, 3) := by decide +kernel
theorem d_M_pitch_57 : decode b_M_pitch 57 = .ok (.iconst 1, 1) := by decide +kernel
theorem d_M_pitch_58 : decode b_M_pitch 58 = .ok (.goto 4, 3) := by decide +kernel
theorem d_M_pitch_61 : decode b_M_pitch 61 = .ok (.iconst 0, 1) := by decide +kernel
theorem d_M_pitch_62 : decode b_M_pitch 62 = .ok (.iastore, 1) := by decide +kernel
theorem d_M_pitch_63 : decode b_M_pitch 63 = .ok (.iinc 2 1, 3) := by decide +kernel
theorem d_M_pitch_66 : decode b_M_pitch 66 = .ok (.goto (-64), 3) := by decide +kernel
theorem d_M_pitch_69 : decode b_M_pitch 69 = .ok (.aload_n 0, 1) := by decide +kernel
theorem d_M_pitch_70 : decode b_M_pitch 70 = .ok (.getfield 21, 3) := by decide +kernel
theorem d_M_pitch_73 : decode b_M_pitch 73 = .ok (.iconst 0, 1) := by decide +kernel
theorem d_M_pitch_74 : decode b_M_pitch 74 = .ok (.iload_n 1, 1) := by decide +kernel
theorem d_M_pitch_75 : decode b_M_pitch 75 = .ok (.iastore, 1) := by decide +kernel
theorem d_M_pitch_76 : decode b_M_pitch 76 = .ok (.aload_n 0, 1) := by decide +kernel
theorem d_M_pitch_77 : decode b_M_pitch 77 = .ok (.getfield 21, 3) := by decide +kernel
theorem d_M_pitch_80 : decode b_M_pitch 80 = .ok (.iconst 1, 1) := by decide +kernel
theorem d_M_pitch_81 : decode b_M_pitch 81 = .ok (.iconst 1, 1) := by decide +kernel
theorem d_M_pitch_82 : decode b_M_pitch 82 = .ok (.iload_n 1, 1) := by decide +kernel
theorem d_M_pitch_83 : decode b_M_pitch 83 = .ok (.ishl, 1) := by decide +kernel
theorem d_M_pitch_84 : decode b_M_pitch 84 = .ok (.iconst 1, 1) := by decide +kernel
theorem d_M_pitch_85 : decode b_M_pitch 85 = .ok (.isub, 1) := by decide +kernel
theorem d_M_pitch_86 : decode b_M_pitch 86 = .ok (.iastore, 1) := by decide +kernel
theorem d_M_pitch_87 : decode b_M_pitch 87 = .ok (.return_, 1) := by decide +kernel
theorem d_M_noPeg_0 : decode b_M_noPeg 0 = .ok (.iload_n 1, 1) := by decide +kernel
theorem d_M_noPeg_1 : decode b_M_noPeg 1 = .ok (.i2l, 1) := by decide +kernel
theorem d_M_noPeg_2 : decode b_M_noPeg 2 = .ok (.lconst 0, 1) := by decide +kernel
theorem d_M_noPeg_3 : decode b_M_noPeg 3 = .ok (.aload_n 0, 1) := by decide +kernel
theorem d_M_noPeg_4 : decode b_M_noPeg 4 = .ok (.getfield 21, 3) := by decide +kernel
theorem d_M_noPeg_7 : decode b_M_noPeg 7 = .ok (.iconst 0, 1) := by decide +kernel
theorem d_M_noPeg_8 : decode b_M_noPeg 8 = .ok (.iaload, 1) := by decide +kernel
theorem d_M_noPeg_9 : decode b_M_noPeg 9 = .ok (.iconst 1, 1) := by decide +kernel
theorem d_M_noPeg_10 : decode b_M_noPeg 10 = .ok (.isub, 1) := by decide +kernel
theorem d_M_noPeg_11 : decode b_M_noPeg 11 = .ok (.i2l, 1) := by decide +kernel
theorem d_M_noPeg_12 : decode b_M_noPeg 12 = .ok (.invokestatic 57, 3) := by decide +kernel
theorem d_M_noPeg_15 : decode b_M_noPeg 15 = .ok (.ifCond .ne 7, 3) := by decide +kernel
theorem d_M_noPeg_18 : decode b_M_noPeg 18 = .ok (.iconst 1, 1) := by decide +kernel
theorem d_M_noPeg_19 : decode b_M_noPeg 19 = .ok (.goto 4, 3) := by decide +kernel
theorem d_M_noPeg_22 : decode b_M_noPeg 22 = .ok (.iconst 0, 1) := by decide +kernel
theorem d_M_noPeg_23 : decode b_M_noPeg 23 = .ok (.ireturn, 1) := by decide +kernel
theorem d_M_noWay_0 : decode b_M_noWay 0 = .ok (.iload_n 0, 1) := by decide +kernel
theorem d_M_noWay_1 : decode b_M_noWay 1 = .ok (.i2l, 1) := by decide +kernel
theorem d_M_noWay_2 : decode b_M_noWay 2 = .ok (.lconst 0, 1) := by decide +kernel
theorem d_M_noWay_3 : decode b_M_noWay 3 = .ok (.ldc2_w 61, 3) := by decide +kernel
theorem d_M_noWay_6 : decode b_M_noWay 6 = .ok (.invokestatic 57, 3) := by decide +kernel
theorem d_M_noWay_9 : decode b_M_noWay 9 = .ok (.ifCond .ne 7, 3) := by decide +kernel
theorem d_M_noWay_12 : decode b_M_noWay 12 = .ok (.iconst 1, 1) := by decide +kernel
theorem d_M_noWay_13 : decode b_M_noWay 13 = .ok (.goto 4, 3) := by decide +kernel
theorem d_M_noWay_16 : decode b_M_noWay 16 = .ok (.iconst 0, 1) := by decide +kernel
theorem d_M_noWay_17 : decode b_M_noWay 17 = .ok (.ireturn, 1) := by decide +kernel
theorem d_M_noGust_0 : decode b_M_noGust 0 = .ok (.iload_n 0, 1) := by decide +kernel
theorem d_M_noGust_1 : decode b_M_noGust 1 = .ok (.invokestatic 63, 3) := by decide +kernel
theorem d_M_noGust_4 : decode b_M_noGust 4 = .ok (.ifCond .ne 15, 3) := by decide +kernel
theorem d_M_noGust_7 : decode b_M_noGust 7 = .ok (.iload_n 1, 1) := by decide +kernel
theorem d_M_noGust_8 : decode b_M_noGust 8 = .ok (.i2l, 1) := by decide +kernel
theorem d_M_noGust_9 : decode b_M_noGust 9 = .ok (.lconst 0, 1) := by decide +kernel
theorem d_M_noGust_10 : decode b_M_noGust 10 = .ok (.ldc2_w 67, 3) := by decide +kernel
theorem d_M_noGust_13 : decode b_M_noGust 13 = .ok (.invokestatic 57, 3) := by decide +kernel
theorem d_M_noGust_16 : decode b_M_noGust 16 = .ok (.ifCond .ne 7, 3) := by decide +kernel
theorem d_M_noGust_19 : decode b_M_noGust 19 = .ok (.iconst 1, 1) := by decide +kernel
theorem d_M_noGust_20 : decode b_M_noGust 20 = .ok (.goto 4, 3) := by decide +kernel
theorem d_M_noGust_23 : decode b_M_noGust 23 = .ok (.iconst 0, 1) := by decide +kernel
theorem d_M_noGust_24 : decode b_M_noGust 24 = .ok (.ireturn, 1) := by decide +kernel
theorem d_M_isLost_0 : decode b_M_isLost 0 = .ok (.aload_n 0, 1) := by decide +kernel
theorem d_M_isLost_1 : decode b_M_isLost 1 = .ok (.getfield 21, 3) := by decide +kernel
theorem d_M_isLost_4 : decode b_M_isLost 4 = .ok (.iconst 1, 1) := by decide +kernel
theorem d_M_isLost_5 : decode b_M_isLost 5 = .ok (.iaload, 1) := by decide +kernel
theorem d_M_isLost_6 : decode b_M_isLost 6 = .ok (.invokestatic 69, 3) := by decide +kernel
theorem d_M_isLost_9 : decode b_M_isLost 9 = .ok (.iconst 2, 1) := by decide +kernel
theorem d_M_isLost_10 : decode b_M_isLost 10 = .ok (.if_icmp .ge 7, 3) := by decide +kernel
theorem d_M_isLost_13 : decode b_M_isLost 13 = .ok (.iconst 1, 1) := by decide +kernel
theorem d_M_isLost_14 : decode b_M_isLost 14 = .ok (.goto 4, 3) := by decide +kernel
theorem d_M_isLost_17 : decode b_M_isLost 17 = .ok (.iconst 0, 1) := by decide +kernel
theorem d_M_isLost_18 : decode b_M_isLost 18 = .ok (.ireturn, 1) := by decide +kernel
theorem d_M_tent_0 : decode b_M_tent 0 = .ok (.aload_n 0, 1) := by decide +kernel
theorem d_M_tent_1 : decode b_M_tent 1 = .ok (.iconst 0, 1) := by decide +kernel
theorem d_M_tent_2 : decode b_M_tent 2 = .ok (.putfield 1, 3) := by decide +kernel
theorem d_M_tent_5 : decode b_M_tent 5 = .ok (.iload_n 1, 1) := by decide +kernel
theorem d_M_tent_6 : decode b_M_tent 6 = .ok (.i2l, 1) := by decide +kernel
theorem d_M_tent_7 : decode b_M_tent 7 = .ok (.ldc2_w 73, 3) := by decide +kernel
theorem d_M_tent_10 : decode b_M_tent 10 = .ok (.ldc2_w 75, 3) := by decide +kernel
theorem d_M_tent_13 : decode b_M_tent 13 = .ok (.invokestatic 57, 3) := by decide +kernel
theorem d_M_tent_16 : decode b_M_tent 16 = .ok (.ifCond .ne 8, 3) := by decide +kernel
theorem d_M_tent_19 : decode b_M_tent 19 = .ok (.aload_n 0, 1) := by decide +kernel
theorem d_M_tent_20 : decode b_M_tent 20 = .ok (.invokevirtual 77, 3) := by decide +kernel
theorem d_M_tent_23 : decode b_M_tent 23 = .ok (.ireturn, 1) := by decide +kernel
theorem d_M_tent_24 : decode b_M_tent 24 = .ok (.aload_n 0, 1) := by decide +kernel
theorem d_M_tent_25 : decode b_M_tent 25 = .ok (.getfield 21, 3) := by decide +kernel
theorem d_M_tent_28 : decode b_M_tent 28 = .ok (.iconst 0, 1) := by decide +kernel
theorem d_M_tent_29 : decode b_M_tent 29 = .ok (.iaload, 1) := by decide +kernel
theorem d_M_tent_30 : decode b_M_tent 30 = .ok (.istore_n 2, 1) := by decide +kernel
theorem d_M_tent_31 : decode b_M_tent 31 = .ok (.aload_n 0, 1) := by decide +kernel
theorem d_M_tent_32 : decode b_M_tent 32 = .ok (.iload_n 1, 1) := by decide +kernel
theorem d_M_tent_33 : decode b_M_tent 33 = .ok (.invokevirtual 53, 3) := by decide +kernel
theorem d_M_tent_36 : decode b_M_tent 36 = .ok (.iload_n 2, 1) := by decide +kernel
theorem d_M_tent_37 : decode b_M_tent 37 = .ok (.ireturn, 1) := by decide +kernel
theorem d_M_isPeg_0 : decode b_M_isPeg 0 = .ok (.aload_n 0, 1) := by decide +kernel
theorem d_M_isPeg_1 : decode b_M_isPeg 1 = .ok (.iload_n 1, 1) := by decide +kernel
theorem d_M_isPeg_2 : decode b_M_isPeg 2 = .ok (.invokevirtual 81, 3) := by decide +kernel
theorem d_M_isPeg_5 : decode b_M_isPeg 5 = .ok (.ifCond .ne 44, 3) := by decide +kernel
theorem d_M_isPeg_8 : decode b_M_isPeg 8 = .ok (.iload_n 2, 1) := by decide +kernel
theorem d_M_isPeg_9 : decode b_M_isPeg 9 = .ok (.i2l, 1) := by decide +kernel
theorem d_M_isPeg_10 : decode b_M_isPeg 10 = .ok (.lconst 0, 1) := by decide +kernel
theorem d_M_isPeg_11 : decode b_M_isPeg 11 = .ok (.ldc2_w 84, 3) := by decide +kernel
theorem d_M_isPeg_14 : decode b_M_isPeg 14 = .ok (.invokestatic 57, 3) := by decide +kernel
theorem d_M_isPeg_17 : decode b_M_isPeg 17 = .ok (.ifCond .eq 32, 3) := by decide +kernel
theorem d_M_isPeg_20 : decode b_M_isPeg 20 = .ok (.iload_n 3, 1) := by decide +kernel
theorem d_M_isPeg_21 : decode b_M_isPeg 21 = .ok (.i2l, 1) := by decide +kernel
theorem d_M_isPeg_22 : decode b_M_isPeg 22 = .ok (.lconst 0, 1) := by decide +kernel
theorem d_M_isPeg_23 : decode b_M_isPeg 23 = .ok (.ldc2_w 86, 3) := by decide +kernel
theorem d_M_isPeg_26 : decode b_M_isPeg 26 = .ok (.invokestatic 57, 3) := by decide +kernel
theorem d_M_isPeg_29 : decode b_M_isPeg 29 = .ok (.ifCond .eq 20, 3) := by decide +kernel
theorem d_M_isPeg_32 : decode b_M_isPeg 32 = .ok (.iload 4, 2) := by decide +kernel
theorem d_M_isPeg_34 : decode b_M_isPeg 34 = .ok (.i2l, 1) := by decide +kernel
theorem d_M_isPeg_35 : decode b_M_isPeg 35 = .ok (.lconst 0, 1) := by decide +kernel
theorem d_M_isPeg_36 : decode b_M_isPeg 36 = .ok (.ldc2_w 86, 3) := by decide +kernel
theorem d_M_isPeg_39 : decode b_M_isPeg 39 = .ok (.invokestatic 57, 3) := by decide +kernel
theorem d_M_isPeg_42 : decode b_M_isPeg 42 = .ok (.ifCond .eq 7, 3) := by decide +kernel
theorem d_M_isPeg_45 : decode b_M_isPeg 45 = .ok (.iconst 1, 1) := by decide +kernel
theorem d_M_isPeg_46 : decode b_M_isPeg 46 = .ok (.goto 4, 3) := by decide +kernel
theorem d_M_isPeg_49 : decode b_M_isPeg 49 = .ok (.iconst 0, 1) := by decide +kernel
theorem d_M_isPeg_50 : decode b_M_isPeg 50 = .ok (.ireturn, 1) := by decide +kernel
theorem d_M_drive_0 : decode b_M_drive 0 = .ok (.aload_n 0, 1) := by decide +kernel
theorem d_M_drive_1 : decode b_M_drive 1 = .ok (.getfield 21, 3) := by decide +kernel
theorem d_M_drive_4 : decode b_M_drive 4 = .ok (.iconst 5, 1) := by decide +kernel
theorem d_M_drive_5 : decode b_M_drive 5 = .ok (.iload_n 1, 1) := by decide +kernel
theorem d_M_drive_6 : decode b_M_drive 6 = .ok (.iadd, 1) := by decide +kernel
theorem d_M_drive_7 : decode b_M_drive 7 = .ok (.iload_n 2, 1) := by decide +kernel
theorem d_M_drive_8 : decode b_M_drive 8 = .ok (.iastore, 1) := by decide +kernel
theorem d_M_drive_9 : decode b_M_drive 9 = .ok (.aload_n 0, 1) := by decide +kernel
theorem d_M_drive_10 : decode b_M_drive 10 = .ok (.getfield 21, 3) := by decide +kernel
theorem d_M_drive_13 : decode b_M_drive 13 = .ok (.bipush 13, 2) := by decide +kernel
theorem d_M_drive_15 : decode b_M_drive 15 = .ok (.iload_n 1, 1) := by decide +kernel
theorem d_M_drive_16 : decode b_M_drive 16 = .ok (.iadd, 1) := by decide +kernel
theorem d_M_drive_17 : decode b_M_drive 17 = .ok (.iload_n 3, 1) := by decide +kernel
theorem d_M_drive_18 : decode b_M_drive 18 = .ok (.iastore, 1) := by decide +kernel
theorem d_M_drive_19 : decode b_M_drive 19 = .ok (.aload_n 0, 1) := by decide +kernel
theorem d_M_drive_20 : decode b_M_drive 20 = .ok (.getfield 21, 3) := by decide +kernel
theorem d_M_drive_23 : decode b_M_drive 23 = .ok (.bipush 21, 2) := by decide +kernel
theorem d_M_drive_25 : decode b_M_drive 25 = .ok (.iload_n 1, 1) := by decide +kernel
theorem d_M_drive_26 : decode b_M_drive 26 = .ok (.iadd, 1) := by decide +kernel
theorem d_M_drive_27 : decode b_M_drive 27 = .ok (.iload 4, 2) := by decide +kernel
theorem d_M_drive_29 : decode b_M_drive 29 = .ok (.iastore, 1) := by decide +kernel
theorem d_M_drive_30 : decode b_M_drive 30 = .ok (.return_, 1) := by decide +kernel
theorem d_M_peg_0 : decode b_M_peg 0 = .ok (.aload_n 0, 1) := by decide +kernel
theorem d_M_peg_1 : decode b_M_peg 1 = .ok (.iconst 0, 1) := by decide +kernel
theorem d_M_peg_2 : decode b_M_peg 2 = .ok (.putfield 1, 3) := by decide +kernel
theorem d_M_peg_5 : decode b_M_peg 5 = .ok (.aload_n 0, 1) := by decide +kernel
theorem d_M_peg_6 : decode b_M_peg 6 = .ok (.iload_n 1, 1) := by decide +kernel
theorem d_M_peg_7 : decode b_M_peg 7 = .ok (.iload_n 2, 1) := by decide +kernel
theorem d_M_peg_8 : decode b_M_peg 8 = .ok (.iload_n 3, 1) := by decide +kernel
theorem d_M_peg_9 : decode b_M_peg 9 = .ok (.iload 4, 2) := by decide +kernel
theorem d_M_peg_11 : decode b_M_peg 11 = .ok (.invokevirtual 88, 3) := by decide +kernel
theorem d_M_peg_14 : decode b_M_peg 14 = .ok (.ifCond .ne 8, 3) := by decide +kernel
theorem d_M_peg_17 : decode b_M_peg 17 = .ok (.aload_n 0, 1) := by decide +kernel
theorem d_M_peg_18 : decode b_M_peg 18 = .ok (.invokevirtual 77, 3) := by decide +kernel
theorem d_M_peg_21 : decode b_M_peg 21 = .ok (.ireturn, 1) := by decide +kernel
theorem d_M_peg_22 : decode b_M_peg 22 = .ok (.aload_n 0, 1) := by decide +kernel
theorem d_M_peg_23 : decode b_M_peg 23 = .ok (.getfield 21, 3) := by decide +kernel
theorem d_M_peg_26 : decode b_M_peg 26 = .ok (.iconst 5, 1) := by decide +kernel
theorem d_M_peg_27 : decode b_M_peg 27 = .ok (.iload_n 1, 1) := by decide +kernel
theorem d_M_peg_28 : decode b_M_peg 28 = .ok (.iadd, 1) := by decide +kernel
theorem d_M_peg_29 : decode b_M_peg 29 = .ok (.iaload, 1) := by decide +kernel
theorem d_M_peg_30 : decode b_M_peg 30 = .ok (.istore 5, 2) := by decide +kernel
theorem d_M_peg_32 : decode b_M_peg 32 = .ok (.aload_n 0, 1) := by decide +kernel
theorem d_M_peg_33 : decode b_M_peg 33 = .ok (.iload_n 1, 1) := by decide +kernel
theorem d_M_peg_34 : decode b_M_peg 34 = .ok (.iload_n 2, 1) := by decide +kernel
theorem d_M_peg_35 : decode b_M_peg 35 = .ok (.iload_n 3, 1) := by decide +kernel
theorem d_M_peg_36 : decode b_M_peg 36 = .ok (.iload 4, 2) := by decide +kernel
theorem d_M_peg_38 : decode b_M_peg 38 = .ok (.invokevirtual 92, 3) := by decide +kernel
theorem d_M_peg_41 : decode b_M_peg 41 = .ok (.iload 5, 2) := by decide +kernel
theorem d_M_peg_43 : decode b_M_peg 43 = .ok (.ireturn, 1) := by decide +kernel
theorem d_M_wet_0 : decode b_M_wet 0 = .ok (.aload_n 0, 1) := by decide +kernel
theorem d_M_wet_1 : decode b_M_wet 1 = .ok (.iconst 0, 1) := by decide +kernel
theorem d_M_wet_2 : decode b_M_wet 2 = .ok (.putfield 1, 3) := by decide +kernel
theorem d_M_wet_5 : decode b_M_wet 5 = .ok (.iload_n 1, 1) := by decide +kernel
theorem d_M_wet_6 : decode b_M_wet 6 = .ok (.i2l, 1) := by decide +kernel
theorem d_M_wet_7 : decode b_M_wet 7 = .ok (.lconst 0, 1) := by decide +kernel
theorem d_M_wet_8 : decode b_M_wet 8 = .ok (.ldc2_w 86, 3) := by decide +kernel
theorem d_M_wet_11 : decode b_M_wet 11 = .ok (.invokestatic 57, 3) := by decide +kernel
theorem d_M_wet_14 : decode b_M_wet 14 = .ok (.ifCond .ne 8, 3) := by decide +kernel
theorem d_M_wet_17 : decode b_M_wet 17 = .ok (.aload_n 0, 1) := by decide +kernel
theorem d_M_wet_18 : decode b_M_wet 18 = .ok (.invokevirtual 77, 3) := by decide +kernel
theorem d_M_wet_21 : decode b_M_wet 21 = .ok (.ireturn, 1) := by decide +kernel
theorem d_M_wet_22 : decode b_M_wet 22 = .ok (.aload_n 0, 1) := by decide +kernel
theorem d_M_wet_23 : decode b_M_wet 23 = .ok (.getfield 21, 3) := by decide +kernel
theorem d_M_wet_26 : decode b_M_wet 26 = .ok (.iconst 2, 1) := by decide +kernel
theorem d_M_wet_27 : decode b_M_wet 27 = .ok (.iaload, 1) := by decide +kernel
theorem d_M_wet_28 : decode b_M_wet 28 = .ok (.istore_n 2, 1) := by decide +kernel
theorem d_M_wet_29 : decode b_M_wet 29 = .ok (.aload_n 0, 1) := by decide +kernel
theorem d_M_wet_30 : decode b_M_wet 30 = .ok (.getfield 21, 3) := by decide +kernel
theorem d_M_wet_33 : decode b_M_wet 33 = .ok (.iconst 2, 1) := by decide +kernel
theorem d_M_wet_34 : decode b_M_wet 34 = .ok (.iload_n 1, 1) := by decide +kernel
theorem d_M_wet_35 : decode b_M_wet 35 = .ok (.iastore, 1) := by decide +kernel
theorem d_M_wet_36 : decode b_M_wet 36 = .ok (.iload_n 2, 1) := by decide +kernel
theorem d_M_wet_37 : decode b_M_wet 37 = .ok (.ireturn, 1) := by decide +kernel
theorem d_M_wall_0 : decode b_M_wall 0 = .ok (.aload_n 0, 1) := by decide +kernel
theorem d_M_wall_1 : decode b_M_wall 1 = .ok (.iconst 0, 1) := by decide +kernel
theorem d_M_wall_2 : decode b_M_wall 2 = .ok (.putfield 1, 3) := by decide +kernel
theorem d_M_wall_5 : decode b_M_wall 5 = .ok (.iload_n 1, 1) := by decide +kernel
theorem d_M_wall_6 : decode b_M_wall 6 = .ok (.invokestatic 63, 3) := by decide +kernel
theorem d_M_wall_9 : decode b_M_wall 9 = .ok (.ifCond .eq 8, 3) := by decide +kernel
theorem d_M_wall_12 : decode b_M_wall 12 = .ok (.aload_n 0, 1) := by decide +kernel
theorem d_M_wall_13 : decode b_M_wall 13 = .ok (.invokevirtual 77, 3) := by decide +kernel
theorem d_M_wall_16 : decode b_M_wall 16 = .ok (.ireturn, 1) := by decide +kernel
theorem d_M_wall_17 : decode b_M_wall 17 = .ok (.aload_n 0, 1) := by decide +kernel
theorem d_M_wall_18 : decode b_M_wall 18 = .ok (.getfield 21, 3) := by decide +kernel
theorem d_M_wall_21 : decode b_M_wall 21 = .ok (.iconst 3, 1) := by decide +kernel
theorem d_M_wall_22 : decode b_M_wall 22 = .ok (.iaload, 1) := by decide +kernel
theorem d_M_wall_23 : decode b_M_wall 23 = .ok (.iload_n 1, 1) := by decide +kernel
theorem d_M_wall_24 : decode b_M_wall 24 = .ok (.invokestatic 96, 3) := by decide +kernel
theorem d_M_wall_27 : decode b_M_wall 27 = .ok (.iload_n 2, 1) := by decide +kernel
theorem d_M_wall_28 : decode b_M_wall 28 = .ok (.if_icmp .ne 8, 3) := by decide +kernel
theorem d_M_wall_31 : decode b_M_wall 31 = .ok (.aload_n 0, 1) := by decide +kernel
theorem d_M_wall_32 : decode b_M_wall 32 = .ok (.invokevirtual 100, 3) := by decide +kernel
theorem d_M_wall_35 : decode b_M_wall 35 = .ok (.ireturn, 1) := by decide +kernel
theorem d_M_wall_36 : decode b_M_wall 36 = .ok (.aload_n 0, 1) := by decide +kernel
theorem d_M_wall_37 : decode b_M_wall 37 = .ok (.getfield 21, 3) := by decide +kernel
theorem d_M_wall_40 : decode b_M_wall 40 = .ok (.iconst 3, 1) := by decide +kernel
theorem d_M_wall_41 : decode b_M_wall 41 = .ok (.dup2, 1) := by decide +kernel
theorem d_M_wall_42 : decode b_M_wall 42 = .ok (.iaload, 1) := by decide +kernel
theorem d_M_wall_43 : decode b_M_wall 43 = .ok (.iconst 1, 1) := by decide +kernel
theorem d_M_wall_44 : decode b_M_wall 44 = .ok (.iload_n 1, 1) := by decide +kernel
theorem d_M_wall_45 : decode b_M_wall 45 = .ok (.ishl, 1) := by decide +kernel
theorem d_M_wall_46 : decode b_M_wall 46 = .ok (.ixor, 1) := by decide +kernel
theorem d_M_wall_47 : decode b_M_wall 47 = .ok (.iastore, 1) := by decide +kernel
theorem d_M_wall_48 : decode b_M_wall 48 = .ok (.iconst 1, 1) := by decide +kernel
theorem d_M_wall_49 : decode b_M_wall 49 = .ok (.ireturn, 1) := by decide +kernel
theorem d_M_odds_0 : decode b_M_odds 0 = .ok (.aload_n 0, 1) := by decide +kernel
theorem d_M_odds_1 : decode b_M_odds 1 = .ok (.iconst 0, 1) := by decide +kernel
theorem d_M_odds_2 : decode b_M_odds 2 = .ok (.putfield 1, 3) := by decide +kernel
theorem d_M_odds_5 : decode b_M_odds 5 = .ok (.iload_n 1, 1) := by decide +kernel
theorem d_M_odds_6 : decode b_M_odds 6 = .ok (.invokestatic 63, 3) := by decide +kernel
theorem d_M_odds_9 : decode b_M_odds 9 = .ok (.ifCond .ne 15, 3) := by decide +kernel
theorem d_M_odds_12 : decode b_M_odds 12 = .ok (.iload_n 2, 1) := by decide +kernel
theorem d_M_odds_13 : decode b_M_odds 13 = .ok (.i2l, 1) := by decide +kernel
theorem d_M_odds_14 : decode b_M_odds 14 = .ok (.lconst 0, 1) := by decide +kernel
theorem d_M_odds_15 : decode b_M_odds 15 = .ok (.ldc2_w 103, 3) := by decide +kernel
theorem d_M_odds_18 : decode b_M_odds 18 = .ok (.invokestatic 57, 3) := by decide +kernel
theorem d_M_odds_21 : decode b_M_odds 21 = .ok (.ifCond .ne 8, 3) := by decide +kernel
theorem d_M_odds_24 : decode b_M_odds 24 = .ok (.aload_n 0, 1) := by decide +kernel
theorem d_M_odds_25 : decode b_M_odds 25 = .ok (.invokevirtual 77, 3) := by decide +kernel
theorem d_M_odds_28 : decode b_M_odds 28 = .ok (.ireturn, 1) := by decide +kernel
theorem d_M_odds_29 : decode b_M_odds 29 = .ok (.aload_n 0, 1) := by decide +kernel
theorem d_M_odds_30 : decode b_M_odds 30 = .ok (.getfield 21, 3) := by decide +kernel
theorem d_M_odds_33 : decode b_M_odds 33 = .ok (.bipush 29, 2) := by decide +kernel
theorem d_M_odds_35 : decode b_M_odds 35 = .ok (.iload_n 1, 1) := by decide +kernel
theorem d_M_odds_36 : decode b_M_odds 36 = .ok (.iadd, 1) := by decide +kernel
theorem d_M_odds_37 : decode b_M_odds 37 = .ok (.iaload, 1) := by decide +kernel
theorem d_M_odds_38 : decode b_M_odds 38 = .ok (.istore_n 3, 1) := by decide +kernel
theorem d_M_odds_39 : decode b_M_odds 39 = .ok (.aload_n 0, 1) := by decide +kernel
theorem d_M_odds_40 : decode b_M_odds 40 = .ok (.getfield 21, 3) := by decide +kernel
theorem d_M_odds_43 : decode b_M_odds 43 = .ok (.bipush 29, 2) := by decide +kernel
theorem d_M_odds_45 : decode b_M_odds 45 = .ok (.iload_n 1, 1) := by decide +kernel
theorem d_M_odds_46 : decode b_M_odds 46 = .ok (.iadd, 1) := by decide +kernel
theorem d_M_odds_47 : decode b_M_odds 47 = .ok (.iload_n 2, 1) := by decide +kernel
theorem d_M_odds_48 : decode b_M_odds 48 = .ok (.iastore, 1) := by decide +kernel
theorem d_M_odds_49 : decode b_M_odds 49 = .ok (.iload_n 3, 1) := by decide +kernel
theorem d_M_odds_50 : decode b_M_odds 50 = .ok (.ireturn, 1) := by decide +kernel
theorem d_M_type_0 : decode b_M_type 0 = .ok (.aload_n 0, 1) := by decide +kernel
theorem d_M_type_1 : decode b_M_type 1 = .ok (.iconst 0, 1) := by decide +kernel
theorem d_M_type_2 : decode b_M_type 2 = .ok (.putfield 1, 3) := by decide +kernel
theorem d_M_type_5 : decode b_M_type 5 = .ok (.iload_n 1, 1) := by decide +kernel
theorem d_M_type_6 : decode b_M_type 6 = .ok (.i2l, 1) := by decide +kernel
theorem d_M_type_7 : decode b_M_type 7 = .ok (.lconst 0, 1) := by decide +kernel
theorem d_M_type_8 : decode b_M_type 8 = .ok (.ldc2_w 105, 3) := by decide +kernel
theorem d_M_type_11 : decode b_M_type 11 = .ok (.invokestatic 57, 3) := by decide +kernel
theorem d_M_type_14 : decode b_M_type 14 = .ok (.ifCond .ne 8, 3) := by decide +kernel
theorem d_M_type_17 : decode b_M_type 17 = .ok (.aload_n 0, 1) := by decide +kernel
theorem d_M_type_18 : decode b_M_type 18 = .ok (.invokevirtual 77, 3) := by decide +kernel
theorem d_M_type_21 : decode b_M_type 21 = .ok (.ireturn, 1) := by decide +kernel
theorem d_M_type_22 : decode b_M_type 22 = .ok (.aload_n 0, 1) := by decide +kernel
theorem d_M_type_23 : decode b_M_type 23 = .ok (.getfield 107, 3) := by decide +kernel
theorem d_M_type_26 : decode b_M_type 26 = .ok (.sipush 150, 3) := by decide +kernel
theorem d_M_type_29 : decode b_M_type 29 = .ok (.if_icmp .ne 11, 3) := by decide +kernel
theorem d_M_type_32 : decode b_M_type 32 = .ok (.aload_n 0, 1) := by decide +kernel
theorem d_M_type_33 : decode b_M_type 33 = .ok (.iconst 2, 1) := by decide +kernel
theorem d_M_type_34 : decode b_M_type 34 = .ok (.bipush (-4), 2) := by decide +kernel
theorem d_M_type_36 : decode b_M_type 36 = .ok (.invokevirtual 11, 3) := by decide +kernel
theorem d_M_type_39 : decode b_M_type 39 = .ok (.ireturn, 1) := by decide +kernel
theorem d_M_type_40 : decode b_M_type 40 = .ok (.aload_n 0, 1) := by decide +kernel
theorem d_M_type_41 : decode b_M_type 41 = .ok (.getfield 34, 3) := by decide +kernel
theorem d_M_type_44 : decode b_M_type 44 = .ok (.aload_n 0, 1) := by decide +kernel
theorem d_M_type_45 : decode b_M_type 45 = .ok (.getfield 107, 3) := by decide +kernel
theorem d_M_type_48 : decode b_M_type 48 = .ok (.iload_n 1, 1) := by decide +kernel
theorem d_M_type_49 : decode b_M_type 49 = .ok (.iastore, 1) := by decide +kernel
theorem d_M_type_50 : decode b_M_type 50 = .ok (.aload_n 0, 1) := by decide +kernel
theorem d_M_type_51 : decode b_M_type 51 = .ok (.dup, 1) := by decide +kernel
theorem d_M_type_52 : decode b_M_type 52 = .ok (.getfield 107, 3) := by decide +kernel
theorem d_M_type_55 : decode b_M_type 55 = .ok (.iconst 1, 1) := by decide +kernel
theorem d_M_type_56 : decode b_M_type 56 = .ok (.iadd, 1) := by decide +kernel
theorem d_M_type_57 : decode b_M_type 57 = .ok (.putfield 107, 3) := by decide +kernel
theorem d_M_type_60 : decode b_M_type 60 = .ok (.aload_n 0, 1) := by decide +kernel
theorem d_M_type_61 : decode b_M_type 61 = .ok (.getfield 107, 3) := by decide +kernel
theorem d_M_type_64 : decode b_M_type 64 = .ok (.ireturn, 1) := by decide +kernel
theorem d_M_clear_0 : decode b_M_clear 0 = .ok (.aload_n 0, 1) := by decide +kernel
theorem d_M_clear_1 : decode b_M_clear 1 = .ok (.iconst 0, 1) := by decide +kernel
theorem d_M_clear_2 : decode b_M_clear 2 = .ok (.putfield 1, 3) := by decide +kernel
theorem d_M_clear_5 : decode b_M_clear 5 = .ok (.aload_n 0, 1) := by decide +kernel
theorem d_M_clear_6 : decode b_M_clear 6 = .ok (.getfield 107, 3) := by decide +kernel
theorem d_M_clear_9 : decode b_M_clear 9 = .ok (.istore_n 1, 1) := by decide +kernel
theorem d_M_clear_10 : decode b_M_clear 10 = .ok (.aload_n 0, 1) := by decide +kernel
theorem d_M_clear_11 : decode b_M_clear 11 = .ok (.iconst 0, 1) := by decide +kernel
theorem d_M_clear_12 : decode b_M_clear 12 = .ok (.putfield 107, 3) := by decide +kernel
theorem d_M_clear_15 : decode b_M_clear 15 = .ok (.iload_n 1, 1) := by decide +kernel
theorem d_M_clear_16 : decode b_M_clear 16 = .ok (.ireturn, 1) := by decide +kernel
theorem d_M_isFigure_0 : decode b_M_isFigure 0 = .ok (.aload_n 0, 1) := by decide +kernel
theorem d_M_isFigure_1 : decode b_M_isFigure 1 = .ok (.getfield 110, 3) := by decide +kernel
theorem d_M_isFigure_4 : decode b_M_isFigure 4 = .ok (.aload_n 0, 1) := by decide +kernel
theorem d_M_isFigure_5 : decode b_M_isFigure 5 = .ok (.getfield 107, 3) := by decide +kernel
theorem d_M_isFigure_8 : decode b_M_isFigure 8 = .ok (.if_icmp .ge 29, 3) := by decide +kernel
theorem d_M_isFigure_11 : decode b_M_isFigure 11 = .ok (.aload_n 0, 1) := by decide +kernel
theorem d_M_isFigure_12 : decode b_M_isFigure 12 = .ok (.getfield 34, 3) := by decide +kernel
theorem d_M_isFigure_15 : decode b_M_isFigure 15 = .ok (.aload_n 0, 1) := by decide +kernel
theorem d_M_isFigure_16 : decode b_M_isFigure 16 = .ok (.getfield 110, 3) := by decide +kernel
theorem d_M_isFigure_19 : decode b_M_isFigure 19 = .ok (.iaload, 1) := by decide +kernel
theorem d_M_isFigure_20 : decode b_M_isFigure 20 = .ok (.i2l, 1) := by decide +kernel
theorem d_M_isFigure_21 : decode b_M_isFigure 21 = .ok (.ldc2_w 113, 3) := by decide +kernel
theorem d_M_isFigure_24 : decode b_M_isFigure 24 = .ok (.ldc2_w 115, 3) := by decide +kernel
theorem d_M_isFigure_27 : decode b_M_isFigure 27 = .ok (.invokestatic 57, 3) := by decide +kernel
theorem d_M_isFigure_30 : decode b_M_isFigure 30 = .ok (.ifCond .eq 7, 3) := by decide +kernel
theorem d_M_isFigure_33 : decode b_M_isFigure 33 = .ok (.iconst 1, 1) := by decide +kernel
theorem d_M_isFigure_34 : decode b_M_isFigure 34 = .ok (.goto 4, 3) := by decide +kernel
theorem d_M_isFigure_37 : decode b_M_isFigure 37 = .ok (.iconst 0, 1) := by decide +kernel
theorem d_M_isFigure_38 : decode b_M_isFigure 38 = .ok (.ireturn, 1) := by decide +kernel
theorem d_M_next_0 : decode b_M_next 0 = .ok (.aload_n 0, 1) := by decide +kernel
theorem d_M_next_1 : decode b_M_next 1 = .ok (.getfield 110, 3) := by decide +kernel
theorem d_M_next_4 : decode b_M_next 4 = .ok (.aload_n 0, 1) := by decide +kernel
theorem d_M_next_5 : decode b_M_next 5 = .ok (.getfield 107, 3) := by decide +kernel
theorem d_M_next_8 : decode b_M_next 8 = .ok (.if_icmp .ge 30, 3) := by decide +kernel
theorem d_M_next_11 : decode b_M_next 11 = .ok (.aload_n 0, 1) := by decide +kernel
theorem d_M_next_12 : decode b_M_next 12 = .ok (.getfield 34, 3) := by decide +kernel
theorem d_M_next_15 : decode b_M_next 15 = .ok (.aload_n 0, 1) := by decide +kernel
theorem d_M_next_16 : decode b_M_next 16 = .ok (.getfield 110, 3) := by decide +kernel
theorem d_M_next_19 : decode b_M_next 19 = .ok (.iaload, 1) := by decide +kernel
theorem d_M_next_20 : decode b_M_next 20 = .ok (.bipush 32, 2) := by decide +kernel
theorem d_M_next_22 : decode b_M_next 22 = .ok (.if_icmp .ne 16, 3) := by decide +kernel
theorem d_M_next_25 : decode b_M_next 25 = .ok (.aload_n 0, 1) := by decide +kernel
theorem d_M_next_26 : decode b_M_next 26 = .ok (.dup, 1) := by decide +kernel
theorem d_M_next_27 : decode b_M_next 27 = .ok (.getfield 110, 3) := by decide +kernel
theorem d_M_next_30 : decode b_M_next 30 = .ok (.iconst 1, 1) := by decide +kernel
theorem d_M_next_31 : decode b_M_next 31 = .ok (.iadd, 1) := by decide +kernel
theorem d_M_next_32 : decode b_M_next 32 = .ok (.putfield 110, 3) := by decide +kernel
theorem d_M_next_35 : decode b_M_next 35 = .ok (.goto (-35), 3) := by decide +kernel
theorem d_M_next_38 : decode b_M_next 38 = .ok (.aload_n 0, 1) := by decide +kernel
theorem d_M_next_39 : decode b_M_next 39 = .ok (.aload_n 0, 1) := by decide +kernel
theorem d_M_next_40 : decode b_M_next 40 = .ok (.getfield 110, 3) := by decide +kernel
theorem d_M_next_43 : decode b_M_next 43 = .ok (.putfield 117, 3) := by decide +kernel
theorem d_M_next_46 : decode b_M_next 46 = .ok (.aload_n 0, 1) := by decide +kernel
theorem d_M_next_47 : decode b_M_next 47 = .ok (.lconst 0, 1) := by decide +kernel
theorem d_M_next_48 : decode b_M_next 48 = .ok (.putfield 120, 3) := by decide +kernel
theorem d_M_next_51 : decode b_M_next 51 = .ok (.iconst 0, 1) := by decide +kernel
theorem d_M_next_52 : decode b_M_next 52 = .ok (.istore_n 1, 1) := by decide +kernel
theorem d_M_next_53 : decode b_M_next 53 = .ok (.aload_n 0, 1) := by decide +kernel
theorem d_M_next_54 : decode b_M_next 54 = .ok (.getfield 110, 3) := by decide +kernel
theorem d_M_next_57 : decode b_M_next 57 = .ok (.aload_n 0, 1) := by decide +kernel
theorem d_M_next_58 : decode b_M_next 58 = .ok (.getfield 107, 3) := by decide +kernel
theorem d_M_next_61 : decode b_M_next 61 = .ok (.if_icmp .ne 11, 3) := by decide +kernel
theorem d_M_next_64 : decode b_M_next 64 = .ok (.aload_n 0, 1) := by decide +kernel
theorem d_M_next_65 : decode b_M_next 65 = .ok (.iconst 1, 1) := by decide +kernel
theorem d_M_next_66 : decode b_M_next 66 = .ok (.putfield 123, 3) := by decide +kernel
theorem d_M_next_69 : decode b_M_next 69 = .ok (.goto 241, 3) := by decide +kernel
theorem d_M_next_72 : decode b_M_next 72 = .ok (.aload_n 0, 1) := by decide +kernel
theorem d_M_next_73 : decode b_M_next 73 = .ok (.getfield 34, 3) := by decide +kernel
theorem d_M_next_76 : decode b_M_next 76 = .ok (.aload_n 0, 1) := by decide +kernel
theorem d_M_next_77 : decode b_M_next 77 = .ok (.getfield 110, 3) := by decide +kernel
theorem d_M_next_80 : decode b_M_next 80 = .ok (.iaload, 1) := by decide +kernel
theorem d_M_next_81 : decode b_M_next 81 = .ok (.i2l, 1) := by decide +kernel
theorem d_M_next_82 : decode b_M_next 82 = .ok (.ldc2_w 126, 3) := by decide +kernel
theorem d_M_next_85 : decode b_M_next 85 = .ok (.ldc2_w 128, 3) := by decide +kernel
theorem d_M_next_88 : decode b_M_next 88 = .ok (.invokestatic 57, 3) := by decide +kernel
theorem d_M_next_91 : decode b_M_next 91 = .ok (.ifCond .eq 95, 3) := by decide +kernel
theorem d_M_next_94 : decode b_M_next 94 = .ok (.aload_n 0, 1) := by decide +kernel
theorem d_M_next_95 : decode b_M_next 95 = .ok (.iconst 2, 1) := by decide +kernel
theorem d_M_next_96 : decode b_M_next 96 = .ok (.putfield 123, 3) := by decide +kernel
theorem d_M_next_99 : decode b_M_next 99 = .ok (.aload_n 0, 1) := by decide +kernel
theorem d_M_next_100 : decode b_M_next 100 = .ok (.getfield 110, 3) := by decide +kernel
theorem d_M_next_103 : decode b_M_next 103 = .ok (.aload_n 0, 1) := by decide +kernel
theorem d_M_next_104 : decode b_M_next 104 = .ok (.getfield 107, 3) := by decide +kernel
theorem d_M_next_107 : decode b_M_next 107 = .ok (.if_icmp .ge 203, 3) := by decide +kernel
theorem d_M_next_110 : decode b_M_next 110 = .ok (.aload_n 0, 1) := by decide +kernel
theorem d_M_next_111 : decode b_M_next 111 = .ok (.getfield 34, 3) := by decide +kernel
theorem d_M_next_114 : decode b_M_next 114 = .ok (.aload_n 0, 1) := by decide +kernel
theorem d_M_next_115 : decode b_M_next 115 = .ok (.getfield 110, 3) := by decide +kernel
theorem d_M_next_118 : decode b_M_next 118 = .ok (.iaload, 1) := by decide +kernel
theorem d_M_next_119 : decode b_M_next 119 = .ok (.i2l, 1) := by decide +kernel
theorem d_M_next_120 : decode b_M_next 120 = .ok (.ldc2_w 126, 3) := by decide +kernel
theorem d_M_next_123 : decode b_M_next 123 = .ok (.ldc2_w 128, 3) := by decide +kernel
theorem d_M_next_126 : decode b_M_next 126 = .ok (.invokestatic 57, 3) := by decide +kernel
theorem d_M_next_129 : decode b_M_next 129 = .ok (.ifCond .eq 181, 3) := by decide +kernel
theorem d_M_next_132 : decode b_M_next 132 = .ok (.aload_n 0, 1) := by decide +kernel
theorem d_M_next_133 : decode b_M_next 133 = .ok (.iload_n 1, 1) := by decide +kernel
theorem d_M_next_134 : decode b_M_next 134 = .ok (.iconst 5, 1) := by decide +kernel
theorem d_M_next_135 : decode b_M_next 135 = .ok (.if_icmp .ge 29, 3) := by decide +kernel
theorem d_M_next_138 : decode b_M_next 138 = .ok (.ldc2_w 130, 3) := by decide +kernel
theorem d_M_next_141 : decode b_M_next 141 = .ok (.aload_n 0, 1) := by decide +kernel
theorem d_M_next_142 : decode b_M_next 142 = .ok (.getfield 120, 3) := by decide +kernel
theorem d_M_next_145 : decode b_M_next 145 = .ok (.lmul, 1) := by decide +kernel
theorem d_M_next_146 : decode b_M_next 146 = .ok (.aload_n 0, 1) := by decide +kernel
theorem d_M_next_147 : decode b_M_next 147 = .ok (.getfield 34, 3) := by decide +kernel
theorem d_M_next_150 : decode b_M_next 150 = .ok (.aload_n 0, 1) := by decide +kernel
theorem d_M_next_151 : decode b_M_next 151 = .ok (.getfield 110, 3) := by decide +kernel
theorem d_M_next_154 : decode b_M_next 154 = .ok (.iaload, 1) := by decide +kernel
theorem d_M_next_155 : decode b_M_next 155 = .ok (.i2l, 1) := by decide +kernel
theorem d_M_next_156 : decode b_M_next 156 = .ok (.ladd, 1) := by decide +kernel
theorem d_M_next_157 : decode b_M_next 157 = .ok (.ldc2_w 132, 3) := by decide +kernel
theorem d_M_next_160 : decode b_M_next 160 = .ok (.lsub, 1) := by decide +kernel
theorem d_M_next_161 : decode b_M_next 161 = .ok (.goto 6, 3) := by decide +kernel
theorem d_M_next_164 : decode b_M_next 164 = .ok (.ldc2_w 134, 3) := by decide +kernel
theorem d_M_next_167 : decode b_M_next 167 = .ok (.putfield 120, 3) := by decide +kernel
theorem d_M_next_170 : decode b_M_next 170 = .ok (.iinc 1 1, 3) := by decide +kernel
theorem d_M_next_173 : decode b_M_next 173 = .ok (.aload_n 0, 1) := by decide +kernel
theorem d_M_next_174 : decode b_M_next 174 = .ok (.dup, 1) := by decide +kernel
theorem d_M_next_175 : decode b_M_next 175 = .ok (.getfield 110, 3) := by decide +kernel
theorem d_M_next_178 : decode b_M_next 178 = .ok (.iconst 1, 1) := by decide +kernel
theorem d_M_next_179 : decode b_M_next 179 = .ok (.iadd, 1) := by decide +kernel
theorem d_M_next_180 : decode b_M_next 180 = .ok (.putfield 110, 3) := by decide +kernel
theorem d_M_next_183 : decode b_M_next 183 = .ok (.goto (-84), 3) := by decide +kernel
theorem d_M_next_186 : decode b_M_next 186 = .ok (.aload_n 0, 1) := by decide +kernel
theorem d_M_next_187 : decode b_M_next 187 = .ok (.invokevirtual 136, 3) := by decide +kernel
theorem d_M_next_190 : decode b_M_next 190 = .ok (.ifCond .eq 87, 3) := by decide +kernel
theorem d_M_next_193 : decode b_M_next 193 = .ok (.aload_n 0, 1) := by decide +kernel
theorem d_M_next_194 : decode b_M_next 194 = .ok (.iconst 3, 1) := by decide +kernel
theorem d_M_next_195 : decode b_M_next 195 = .ok (.putfield 123, 3) := by decide +kernel
theorem d_M_next_198 : decode b_M_next 198 = .ok (.aload_n 0, 1) := by decide +kernel
theorem d_M_next_199 : decode b_M_next 199 = .ok (.invokevirtual 136, 3) := by decide +kernel
theorem d_M_next_202 : decode b_M_next 202 = .ok (.ifCond .eq 58, 3) := by decide +kernel
theorem d_M_next_205 : decode b_M_next 205 = .ok (.aload_n 0, 1) := by decide +kernel
theorem d_M_next_206 : decode b_M_next 206 = .ok (.iload_n 1, 1) := by decide +kernel
theorem d_M_next_207 : decode b_M_next 207 = .ok (.iconst 2, 1) := by decide +kernel
theorem d_M_next_208 : decode b_M_next 208 = .ok (.if_icmp .ge 29, 3) := by decide +kernel
theorem d_M_next_211 : decode b_M_next 211 = .ok (.ldc2_w 140, 3) := by decide +kernel
theorem d_M_next_214 : decode b_M_next 214 = .ok (.aload_n 0, 1) := by decide +kernel
theorem d_M_next_215 : decode b_M_next 215 = .ok (.getfield 120, 3) := by decide +kernel
theorem d_M_next_218 : decode b_M_next 218 = .ok (.lmul, 1) := by decide +kernel
theorem d_M_next_219 : decode b_M_next 219 = .ok (.aload_n 0, 1) := by decide +kernel
theorem d_M_next_220 : decode b_M_next 220 = .ok (.getfield 34, 3) := by decide +kernel
theorem d_M_next_223 : decode b_M_next 223 = .ok (.aload_n 0, 1) := by decide +kernel
theorem d_M_next_224 : decode b_M_next 224 = .ok (.getfield 110, 3) := by decide +kernel
theorem d_M_next_227 : decode b_M_next 227 = .ok (.iaload, 1) := by decide +kernel
theorem d_M_next_228 : decode b_M_next 228 = .ok (.i2l, 1) := by decide +kernel
theorem d_M_next_229 : decode b_M_next 229 = .ok (.ladd, 1) := by decide +kernel
theorem d_M_next_230 : decode b_M_next 230 = .ok (.ldc2_w 113, 3) := by decide +kernel
theorem d_M_next_233 : decode b_M_next 233 = .ok (.lsub, 1) := by decide +kernel
theorem d_M_next_234 : decode b_M_next 234 = .ok (.goto 7, 3) := by decide +kernel
theorem d_M_next_237 : decode b_M_next 237 = .ok (.aload_n 0, 1) := by decide +kernel
theorem d_M_next_238 : decode b_M_next 238 = .ok (.getfield 120, 3) := by decide +kernel
theorem d_M_next_241 : decode b_M_next 241 = .ok (.putfield 120, 3) := by decide +kernel
theorem d_M_next_244 : decode b_M_next 244 = .ok (.iinc 1 1, 3) := by decide +kernel
theorem d_M_next_247 : decode b_M_next 247 = .ok (.aload_n 0, 1) := by decide +kernel
theorem d_M_next_248 : decode b_M_next 248 = .ok (.dup, 1) := by decide +kernel
theorem d_M_next_249 : decode b_M_next 249 = .ok (.getfield 110, 3) := by decide +kernel
theorem d_M_next_252 : decode b_M_next 252 = .ok (.iconst 1, 1) := by decide +kernel
theorem d_M_next_253 : decode b_M_next 253 = .ok (.iadd, 1) := by decide +kernel
theorem d_M_next_254 : decode b_M_next 254 = .ok (.putfield 110, 3) := by decide +kernel
theorem d_M_next_257 : decode b_M_next 257 = .ok (.goto (-59), 3) := by decide +kernel
theorem d_M_next_260 : decode b_M_next 260 = .ok (.aload_n 0, 1) := by decide +kernel
theorem d_M_next_261 : decode b_M_next 261 = .ok (.iload_n 1, 1) := by decide +kernel
theorem d_M_next_262 : decode b_M_next 262 = .ok (.iconst 2, 1) := by decide +kernel
theorem d_M_next_263 : decode b_M_next 263 = .ok (.if_icmp .le 7, 3) := by decide +kernel
theorem d_M_next_266 : decode b_M_next 266 = .ok (.iconst 0, 1) := by decide +kernel
theorem d_M_next_267 : decode b_M_next 267 = .ok (.goto 4, 3) := by decide +kernel
theorem d_M_next_270 : decode b_M_next 270 = .ok (.iconst 3, 1) := by decide +kernel
theorem d_M_next_271 : decode b_M_next 271 = .ok (.putfield 123, 3) := by decide +kernel
theorem d_M_next_274 : decode b_M_next 274 = .ok (.goto 36, 3) := by decide +kernel
theorem d_M_next_277 : decode b_M_next 277 = .ok (.aload_n 0, 1) := by decide +kernel
theorem d_M_next_278 : decode b_M_next 278 = .ok (.aload_n 0, 1) := by decide +kernel
theorem d_M_next_279 : decode b_M_next 279 = .ok (.getfield 34, 3) := by decide +kernel
theorem d_M_next_282 : decode b_M_next 282 = .ok (.aload_n 0, 1) := by decide +kernel
theorem d_M_next_283 : decode b_M_next 283 = .ok (.getfield 110, 3) := by decide +kernel
theorem d_M_next_286 : decode b_M_next 286 = .ok (.iaload, 1) := by decide +kernel
theorem d_M_next_287 : decode b_M_next 287 = .ok (.bipush 59, 2) := by decide +kernel
theorem d_M_next_289 : decode b_M_next 289 = .ok (.if_icmp .ne 7, 3) := by decide +kernel
theorem d_M_next_292 : decode b_M_next 292 = .ok (.iconst 4, 1) := by decide +kernel
theorem d_M_next_293 : decode b_M_next 293 = .ok (.goto 4, 3) := by decide +kernel
theorem d_M_next_296 : decode b_M_next 296 = .ok (.iconst 0, 1) := by decide +kernel
theorem d_M_next_297 : decode b_M_next 297 = .ok (.putfield 123, 3) := by decide +kernel
theorem d_M_next_300 : decode b_M_next 300 = .ok (.aload_n 0, 1) := by decide +kernel
theorem d_M_next_301 : decode b_M_next 301 = .ok (.dup, 1) := by decide +kernel
theorem d_M_next_302 : decode b_M_next 302 = .ok (.getfield 110, 3) := by decide +kernel
theorem d_M_next_305 : decode b_M_next 305 = .ok (.iconst 1, 1) := by decide +kernel
theorem d_M_next_306 : decode b_M_next 306 = .ok (.iadd, 1) := by decide +kernel
theorem d_M_next_307 : decode b_M_next 307 = .ok (.putfield 110, 3) := by decide +kernel
theorem d_M_next_310 : decode b_M_next 310 = .ok (.return_, 1) := by decide +kernel
theorem d_M_readItem_0 : decode b_M_readItem 0 = .ok (.aload_n 0, 1) := by decide +kernel
theorem d_M_readItem_1 : decode b_M_readItem 1 = .ok (.getfield 123, 3) := by decide +kernel
theorem d_M_readItem_4 : decode b_M_readItem 4 = .ok (.iconst 2, 1) := by decide +kernel
theorem d_M_readItem_5 : decode b_M_readItem 5 = .ok (.if_icmp .eq 7, 3) := by decide +kernel
theorem d_M_readItem_8 : decode b_M_readItem 8 = .ok (.iconst (-1), 1) := by decide +kernel
theorem d_M_readItem_9 : decode b_M_readItem 9 = .ok (.goto 94, 3) := by decide +kernel
theorem d_M_readItem_12 : decode b_M_readItem 12 = .ok (.aload_n 0, 1) := by decide +kernel
theorem d_M_readItem_13 : decode b_M_readItem 13 = .ok (.getfield 120, 3) := by decide +kernel
theorem d_M_readItem_16 : decode b_M_readItem 16 = .ok (.ldc2_w 142, 3) := by decide +kernel
theorem d_M_readItem_19 : decode b_M_readItem 19 = .ok (.lcmp, 1) := by decide +kernel
theorem d_M_readItem_20 : decode b_M_readItem 20 = .ok (.ifCond .ne 7, 3) := by decide +kernel
theorem d_M_readItem_23 : decode b_M_readItem 23 = .ok (.iconst 0, 1) := by decide +kernel
theorem d_M_readItem_24 : decode b_M_readItem 24 = .ok (.goto 79, 3) := by decide +kernel
theorem d_M_readItem_27 : decode b_M_readItem 27 = .ok (.aload_n 0, 1) := by decide +kernel
theorem d_M_readItem_28 : decode b_M_readItem 28 = .ok (.getfield 120, 3) := by decide +kernel
theorem d_M_readItem_31 : decode b_M_readItem 31 = .ok (.ldc2_w 144, 3) := by decide +kernel
theorem d_M_readItem_34 : decode b_M_readItem 34 = .ok (.lcmp, 1) := by decide +kernel
theorem d_M_readItem_35 : decode b_M_readItem 35 = .ok (.ifCond .ne 7, 3) := by decide +kernel
theorem d_M_readItem_38 : decode b_M_readItem 38 = .ok (.iconst 1, 1) := by decide +kernel
theorem d_M_readItem_39 : decode b_M_readItem 39 = .ok (.goto 64, 3) := by decide +kernel
theorem d_M_readItem_42 : decode b_M_readItem 42 = .ok (.aload_n 0, 1) := by decide +kernel
theorem d_M_readItem_43 : decode b_M_readItem 43 = .ok (.getfield 120, 3) := by decide +kernel
theorem d_M_readItem_46 : decode b_M_readItem 46 = .ok (.ldc2_w 146, 3) := by decide +kernel
theorem d_M_readItem_49 : decode b_M_readItem 49 = .ok (.lcmp, 1) := by decide +kernel
theorem d_M_readItem_50 : decode b_M_readItem 50 = .ok (.ifCond .ne 7, 3) := by decide +kernel
theorem d_M_readItem_53 : decode b_M_readItem 53 = .ok (.iconst 2, 1) := by decide +kernel
theorem d_M_readItem_54 : decode b_M_readItem 54 = .ok (.goto 49, 3) := by decide +kernel
theorem d_M_readItem_57 : decode b_M_readItem 57 = .ok (.aload_n 0, 1) := by decide +kernel
theorem d_M_readItem_58 : decode b_M_readItem 58 = .ok (.getfield 120, 3) := by decide +kernel
theorem d_M_readItem_61 : decode b_M_readItem 61 = .ok (.ldc2_w 148, 3) := by decide +kernel
theorem d_M_readItem_64 : decode b_M_readItem 64 = .ok (.lcmp, 1) := by decide +kernel
theorem d_M_readItem_65 : decode b_M_readItem 65 = .ok (.ifCond .ne 7, 3) := by decide +kernel
theorem d_M_readItem_68 : decode b_M_readItem 68 = .ok (.iconst 3, 1) := by decide +kernel
theorem d_M_readItem_69 : decode b_M_readItem 69 = .ok (.goto 34, 3) := by decide +kernel
theorem d_M_readItem_72 : decode b_M_readItem 72 = .ok (.aload_n 0, 1) := by decide +kernel
theorem d_M_readItem_73 : decode b_M_readItem 73 = .ok (.getfield 120, 3) := by decide +kernel
theorem d_M_readItem_76 : decode b_M_readItem 76 = .ok (.ldc2_w 150, 3) := by decide +kernel
theorem d_M_readItem_79 : decode b_M_readItem 79 = .ok (.lcmp, 1) := by decide +kernel
theorem d_M_readItem_80 : decode b_M_readItem 80 = .ok (.ifCond .ne 7, 3) := by decide +kernel
theorem d_M_readItem_83 : decode b_M_readItem 83 = .ok (.iconst 4, 1) := by decide +kernel
theorem d_M_readItem_84 : decode b_M_readItem 84 = .ok (.goto 19, 3) := by decide +kernel
theorem d_M_readItem_87 : decode b_M_readItem 87 = .ok (.aload_n 0, 1) := by decide +kernel
theorem d_M_readItem_88 : decode b_M_readItem 88 = .ok (.getfield 120, 3) := by decide +kernel
theorem d_M_readItem_91 : decode b_M_readItem 91 = .ok (.ldc2_w 152, 3) := by decide +kernel
theorem d_M_readItem_94 : decode b_M_readItem 94 = .ok (.lcmp, 1) := by decide +kernel
theorem d_M_readItem_95 : decode b_M_readItem 95 = .ok (.ifCond .ne 7, 3) := by decide +kernel
theorem d_M_readItem_98 : decode b_M_readItem 98 = .ok (.iconst 5, 1) := by decide +kernel
theorem d_M_readItem_99 : decode b_M_readItem 99 = .ok (.goto 4, 3) := by decide +kernel
theorem d_M_readItem_102 : decode b_M_readItem 102 = .ok (.iconst (-1), 1) := by decide +kernel
theorem d_M_readItem_103 : decode b_M_readItem 103 = .ok (.istore_n 1, 1) := by decide +kernel
theorem d_M_readItem_104 : decode b_M_readItem 104 = .ok (.iload_n 1, 1) := by decide +kernel
theorem d_M_readItem_105 : decode b_M_readItem 105 = .ok (.iconst (-1), 1) := by decide +kernel
theorem d_M_readItem_106 : decode b_M_readItem 106 = .ok (.if_icmp .eq 27, 3) := by decide +kernel
theorem d_M_readItem_109 : decode b_M_readItem 109 = .ok (.iload_n 1, 1) := by decide +kernel
theorem d_M_readItem_110 : decode b_M_readItem 110 = .ok (.ifCond .ne 7, 3) := by decide +kernel
theorem d_M_readItem_113 : decode b_M_readItem 113 = .ok (.iconst 1, 1) := by decide +kernel
theorem d_M_readItem_114 : decode b_M_readItem 114 = .ok (.goto 4, 3) := by decide +kernel
theorem d_M_readItem_117 : decode b_M_readItem 117 = .ok (.iconst 0, 1) := by decide +kernel
theorem d_M_readItem_118 : decode b_M_readItem 118 = .ok (.aload_n 0, 1) := by decide +kernel
theorem d_M_readItem_119 : decode b_M_readItem 119 = .ok (.getfield 154, 3) := by decide +kernel
theorem d_M_readItem_122 : decode b_M_readItem 122 = .ok (.ifCond .ne 7, 3) := by decide +kernel
theorem d_M_readItem_125 : decode b_M_readItem 125 = .ok (.iconst 1, 1) := by decide +kernel
theorem d_M_readItem_126 : decode b_M_readItem 126 = .ok (.goto 4, 3) := by decide +kernel
theorem d_M_readItem_129 : decode b_M_readItem 129 = .ok (.iconst 0, 1) := by decide +kernel
theorem d_M_readItem_130 : decode b_M_readItem 130 = .ok (.if_icmp .eq 5, 3) := by decide +kernel
theorem d_M_readItem_133 : decode b_M_readItem 133 = .ok (.iconst 0, 1) := by decide +kernel
theorem d_M_readItem_134 : decode b_M_readItem 134 = .ok (.ireturn, 1) := by decide +kernel
theorem d_M_readItem_135 : decode b_M_readItem 135 = .ok (.iload_n 1, 1) := by decide +kernel
theorem d_M_readItem_136 : decode b_M_readItem 136 = .ok (.iconst 1, 1) := by decide +kernel
theorem d_M_readItem_137 : decode b_M_readItem 137 = .ok (.if_icmp .ne 7, 3) := by decide +kernel
theorem d_M_readItem_140 : decode b_M_readItem 140 = .ok (.iconst 4, 1) := by decide +kernel
theorem d_M_readItem_141 : decode b_M_readItem 141 = .ok (.goto 13, 3) := by decide +kernel
theorem d_M_readItem_144 : decode b_M_readItem 144 = .ok (.iload_n 1, 1) := by decide +kernel
theorem d_M_readItem_145 : decode b_M_readItem 145 = .ok (.iconst 4, 1) := by decide +kernel
theorem d_M_readItem_146 : decode b_M_readItem 146 = .ok (.if_icmp .ne 7, 3) := by decide +kernel
theorem d_M_readItem_149 : decode b_M_readItem 149 = .ok (.iconst 2, 1) := by decide +kernel
theorem d_M_readItem_150 : decode b_M_readItem 150 = .ok (.goto 4, 3) := by decide +kernel
theorem d_M_readItem_153 : decode b_M_readItem 153 = .ok (.iconst 1, 1) := by decide +kernel
theorem d_M_readItem_154 : decode b_M_readItem 154 = .ok (.istore_n 2, 1) := by decide +kernel
theorem d_M_readItem_155 : decode b_M_readItem 155 = .ok (.aload_n 0, 1) := by decide +kernel
theorem d_M_readItem_156 : decode b_M_readItem 156 = .ok (.getfield 37, 3) := by decide +kernel
theorem d_M_readItem_159 : decode b_M_readItem 159 = .ok (.iconst 5, 1) := by decide +kernel
theorem d_M_readItem_160 : decode b_M_readItem 160 = .ok (.aload_n 0, 1) := by decide +kernel
theorem d_M_readItem_161 : decode b_M_readItem 161 = .ok (.getfield 154, 3) := by decide +kernel
theorem d_M_readItem_164 : decode b_M_readItem 164 = .ok (.imul, 1) := by decide +kernel
theorem d_M_readItem_165 : decode b_M_readItem 165 = .ok (.iload_n 1, 1) := by decide +kernel
theorem d_M_readItem_166 : decode b_M_readItem 166 = .ok (.iastore, 1) := by decide +kernel
theorem d_M_readItem_167 : decode b_M_readItem 167 = .ok (.aload_n 0, 1) := by decide +kernel
theorem d_M_readItem_168 : decode b_M_readItem 168 = .ok (.invokevirtual 157, 3) := by decide +kernel
theorem d_M_readItem_171 : decode b_M_readItem 171 = .ok (.iconst 0, 1) := by decide +kernel
theorem d_M_readItem_172 : decode b_M_readItem 172 = .ok (.istore_n 3, 1) := by decide +kernel
theorem d_M_readItem_173 : decode b_M_readItem 173 = .ok (.iload_n 3, 1) := by decide +kernel
theorem d_M_readItem_174 : decode b_M_readItem 174 = .ok (.iload_n 2, 1) := by decide +kernel
theorem d_M_readItem_175 : decode b_M_readItem 175 = .ok (.if_icmp .ge 43, 3) := by decide +kernel
theorem d_M_readItem_178 : decode b_M_readItem 178 = .ok (.aload_n 0, 1) := by decide +kernel
theorem d_M_readItem_179 : decode b_M_readItem 179 = .ok (.getfield 123, 3) := by decide +kernel
theorem d_M_readItem_182 : decode b_M_readItem 182 = .ok (.iconst 3, 1) := by decide +kernel
theorem d_M_readItem_183 : decode b_M_readItem 183 = .ok (.if_icmp .eq 5, 3) := by decide +kernel
theorem d_M_readItem_186 : decode b_M_readItem 186 = .ok (.iconst 0, 1) := by decide +kernel
theorem d_M_readItem_187 : decode b_M_readItem 187 = .ok (.ireturn, 1) := by decide +kernel
theorem d_M_readItem_188 : decode b_M_readItem 188 = .ok (.aload_n 0, 1) := by decide +kernel
theorem d_M_readItem_189 : decode b_M_readItem 189 = .ok (.getfield 37, 3) := by decide +kernel
theorem d_M_readItem_192 : decode b_M_readItem 192 = .ok (.iconst 5, 1) := by decide +kernel
theorem d_M_readItem_193 : decode b_M_readItem 193 = .ok (.aload_n 0, 1) := by decide +kernel
theorem d_M_readItem_194 : decode b_M_readItem 194 = .ok (.getfield 154, 3) := by decide +kernel
theorem d_M_readItem_197 : decode b_M_readItem 197 = .ok (.imul, 1) := by decide +kernel
theorem d_M_readItem_198 : decode b_M_readItem 198 = .ok (.iconst 1, 1) := by decide +kernel
theorem d_M_readItem_199 : decode b_M_readItem 199 = .ok (.iadd, 1) := by decide +kernel
theorem d_M_readItem_200 : decode b_M_readItem 200 = .ok (.iload_n 3, 1) := by decide +kernel
theorem d_M_readItem_201 : decode b_M_readItem 201 = .ok (.iadd, 1) := by decide +kernel
theorem d_M_readItem_202 : decode b_M_readItem 202 = .ok (.aload_n 0, 1) := by decide +kernel
theorem d_M_readItem_203 : decode b_M_readItem 203 = .ok (.getfield 120, 3) := by decide +kernel
theorem d_M_readItem_206 : decode b_M_readItem 206 = .ok (.l2i, 1) := by decide +kernel
theorem d_M_readItem_207 : decode b_M_readItem 207 = .ok (.iastore, 1) := by decide +kernel
theorem d_M_readItem_208 : decode b_M_readItem 208 = .ok (.aload_n 0, 1) := by decide +kernel
theorem d_M_readItem_209 : decode b_M_readItem 209 = .ok (.invokevirtual 157, 3) := by decide +kernel
theorem d_M_readItem_212 : decode b_M_readItem 212 = .ok (.iinc 3 1, 3) := by decide +kernel
theorem d_M_readItem_215 : decode b_M_readItem 215 = .ok (.goto (-42), 3) := by decide +kernel
theorem d_M_readItem_218 : decode b_M_readItem 218 = .ok (.aload_n 0, 1) := by decide +kernel
theorem d_M_readItem_219 : decode b_M_readItem 219 = .ok (.getfield 123, 3) := by decide +kernel
theorem d_M_readItem_222 : decode b_M_readItem 222 = .ok (.iconst 4, 1) := by decide +kernel
theorem d_M_readItem_223 : decode b_M_readItem 223 = .ok (.if_icmp .eq 5, 3) := by decide +kernel
theorem d_M_readItem_226 : decode b_M_readItem 226 = .ok (.iconst 0, 1) := by decide +kernel
theorem d_M_readItem_227 : decode b_M_readItem 227 = .ok (.ireturn, 1) := by decide +kernel
theorem d_M_readItem_228 : decode b_M_readItem 228 = .ok (.aload_n 0, 1) := by decide +kernel
theorem d_M_readItem_229 : decode b_M_readItem 229 = .ok (.dup, 1) := by decide +kernel
theorem d_M_readItem_230 : decode b_M_readItem 230 = .ok (.getfield 154, 3) := by decide +kernel
theorem d_M_readItem_233 : decode b_M_readItem 233 = .ok (.iconst 1, 1) := by decide +kernel
theorem d_M_readItem_234 : decode b_M_readItem 234 = .ok (.iadd, 1) := by decide +kernel
theorem d_M_readItem_235 : decode b_M_readItem 235 = .ok (.putfield 154, 3) := by decide +kernel
theorem d_M_readItem_238 : decode b_M_readItem 238 = .ok (.aload_n 0, 1) := by decide +kernel
theorem d_M_readItem_239 : decode b_M_readItem 239 = .ok (.invokevirtual 157, 3) := by decide +kernel
theorem d_M_readItem_242 : decode b_M_readItem 242 = .ok (.iconst 1, 1) := by decide +kernel
theorem d_M_readItem_243 : decode b_M_readItem 243 = .ok (.ireturn, 1) := by decide +kernel
theorem d_M_readAll_0 : decode b_M_readAll 0 = .ok (.aload_n 0, 1) := by decide +kernel
theorem d_M_readAll_1 : decode b_M_readAll 1 = .ok (.iconst 0, 1) := by decide +kernel
theorem d_M_readAll_2 : decode b_M_readAll 2 = .ok (.putfield 154, 3) := by decide +kernel
theorem d_M_readAll_5 : decode b_M_readAll 5 = .ok (.aload_n 0, 1) := by decide +kernel
theorem d_M_readAll_6 : decode b_M_readAll 6 = .ok (.iconst 0, 1) := by decide +kernel
theorem d_M_readAll_7 : decode b_M_readAll 7 = .ok (.putfield 110, 3) := by decide +kernel
theorem d_M_readAll_10 : decode b_M_readAll 10 = .ok (.aload_n 0, 1) := by decide +kernel
theorem d_M_readAll_11 : decode b_M_readAll 11 = .ok (.invokevirtual 157, 3) := by decide +kernel
theorem d_M_readAll_14 : decode b_M_readAll 14 = .ok (.aload_n 0, 1) := by decide +kernel
theorem d_M_readAll_15 : decode b_M_readAll 15 = .ok (.getfield 123, 3) := by decide +kernel
theorem d_M_readAll_18 : decode b_M_readAll 18 = .ok (.iconst 1, 1) := by decide +kernel
theorem d_M_readAll_19 : decode b_M_readAll 19 = .ok (.if_icmp .ne 8, 3) := by decide +kernel
theorem d_M_readAll_22 : decode b_M_readAll 22 = .ok (.aload_n 0, 1) := by decide +kernel
theorem d_M_readAll_23 : decode b_M_readAll 23 = .ok (.getfield 107, 3) := by decide +kernel
theorem d_M_readAll_26 : decode b_M_readAll 26 = .ok (.ireturn, 1) := by decide +kernel
theorem d_M_readAll_27 : decode b_M_readAll 27 = .ok (.aload_n 0, 1) := by decide +kernel
theorem d_M_readAll_28 : decode b_M_readAll 28 = .ok (.getfield 123, 3) := by decide +kernel
theorem d_M_readAll_31 : decode b_M_readAll 31 = .ok (.iconst 1, 1) := by decide +kernel
theorem d_M_readAll_32 : decode b_M_readAll 32 = .ok (.if_icmp .eq 30, 3) := by decide +kernel
theorem d_M_readAll_35 : decode b_M_readAll 35 = .ok (.aload_n 0, 1) := by decide +kernel
theorem d_M_readAll_36 : decode b_M_readAll 36 = .ok (.invokevirtual 160, 3) := by decide +kernel
theorem d_M_readAll_39 : decode b_M_readAll 39 = .ok (.ifCond .ne (-12), 3) := by decide +kernel
theorem d_M_readAll_42 : decode b_M_readAll 42 = .ok (.aload_n 0, 1) := by decide +kernel
theorem d_M_readAll_43 : decode b_M_readAll 43 = .ok (.getfield 123, 3) := by decide +kernel
theorem d_M_readAll_46 : decode b_M_readAll 46 = .ok (.iconst 1, 1) := by decide +kernel
theorem d_M_readAll_47 : decode b_M_readAll 47 = .ok (.if_icmp .ne 10, 3) := by decide +kernel
theorem d_M_readAll_50 : decode b_M_readAll 50 = .ok (.aload_n 0, 1) := by decide +kernel
theorem d_M_readAll_51 : decode b_M_readAll 51 = .ok (.getfield 107, 3) := by decide +kernel
theorem d_M_readAll_54 : decode b_M_readAll 54 = .ok (.goto 7, 3) := by decide +kernel
theorem d_M_readAll_57 : decode b_M_readAll 57 = .ok (.aload_n 0, 1) := by decide +kernel
theorem d_M_readAll_58 : decode b_M_readAll 58 = .ok (.getfield 117, 3) := by decide +kernel
theorem d_M_readAll_61 : decode b_M_readAll 61 = .ok (.ireturn, 1) := by decide +kernel
theorem d_M_readAll_62 : decode b_M_readAll 62 = .ok (.iconst (-1), 1) := by decide +kernel
theorem d_M_readAll_63 : decode b_M_readAll 63 = .ok (.ireturn, 1) := by decide +kernel
theorem d_M_isTold_0 : decode b_M_isTold 0 = .ok (.aload_n 0, 1) := by decide +kernel
theorem d_M_isTold_1 : decode b_M_isTold 1 = .ok (.getfield 37, 3) := by decide +kernel
theorem d_M_isTold_4 : decode b_M_isTold 4 = .ok (.iconst 5, 1) := by decide +kernel
theorem d_M_isTold_5 : decode b_M_isTold 5 = .ok (.iload_n 1, 1) := by decide +kernel
theorem d_M_isTold_6 : decode b_M_isTold 6 = .ok (.imul, 1) := by decide +kernel
theorem d_M_isTold_7 : decode b_M_isTold 7 = .ok (.iconst 1, 1) := by decide +kernel
theorem d_M_isTold_8 : decode b_M_isTold 8 = .ok (.iadd, 1) := by decide +kernel
theorem d_M_isTold_9 : decode b_M_isTold 9 = .ok (.iaload, 1) := by decide +kernel
theorem d_M_isTold_10 : decode b_M_isTold 10 = .ok (.istore_n 2, 1) := by decide +kernel
theorem d_M_isTold_11 : decode b_M_isTold 11 = .ok (.aload_n 0, 1) := by decide +kernel
theorem d_M_isTold_12 : decode b_M_isTold 12 = .ok (.getfield 37, 3) := by decide +kernel
theorem d_M_isTold_15 : decode b_M_isTold 15 = .ok (.iconst 5, 1) := by decide +kernel
theorem d_M_isTold_16 : decode b_M_isTold 16 = .ok (.iload_n 1, 1) := by decide +kernel
theorem d_M_isTold_17 : decode b_M_isTold 17 = .ok (.imul, 1) := by decide +kernel
theorem d_M_isTold_18 : decode b_M_isTold 18 = .ok (.iconst 2, 1) := by decide +kernel
theorem d_M_isTold_19 : decode b_M_isTold 19 = .ok (.iadd, 1) := by decide +kernel
theorem d_M_isTold_20 : decode b_M_isTold 20 = .ok (.iaload, 1) := by decide +kernel
theorem d_M_isTold_21 : decode b_M_isTold 21 = .ok (.istore_n 3, 1) := by decide +kernel
theorem d_M_isTold_22 : decode b_M_isTold 22 = .ok (.aload_n 0, 1) := by decide +kernel
theorem d_M_isTold_23 : decode b_M_isTold 23 = .ok (.getfield 37, 3) := by decide +kernel
theorem d_M_isTold_26 : decode b_M_isTold 26 = .ok (.iconst 5, 1) := by decide +kernel
theorem d_M_isTold_27 : decode b_M_isTold 27 = .ok (.iload_n 1, 1) := by decide +kernel
theorem d_M_isTold_28 : decode b_M_isTold 28 = .ok (.imul, 1) := by decide +kernel
theorem d_M_isTold_29 : decode b_M_isTold 29 = .ok (.iaload, 1) := by decide +kernel
theorem d_M_isTold_30 : decode b_M_isTold 30 = .ok (.tableswitch 198 0 4 #[34, 57, 116, 135, 171], 34) := by decide +kernel
theorem d_M_isTold_64 : decode b_M_isTold 64 = .ok (.iload_n 2, 1) := by decide +kernel
theorem d_M_isTold_65 : decode b_M_isTold 65 = .ok (.i2l, 1) := by decide +kernel
theorem d_M_isTold_66 : decode b_M_isTold 66 = .ok (.ldc2_w 73, 3) := by decide +kernel
theorem d_M_isTold_69 : decode b_M_isTold 69 = .ok (.ldc2_w 75, 3) := by decide +kernel
theorem d_M_isTold_72 : decode b_M_isTold 72 = .ok (.invokestatic 57, 3) := by decide +kernel
theorem d_M_isTold_75 : decode b_M_isTold 75 = .ok (.ifCond .ne 5, 3) := by decide +kernel
theorem d_M_isTold_78 : decode b_M_isTold 78 = .ok (.iconst 0, 1) := by decide +kernel
theorem d_M_isTold_79 : decode b_M_isTold 79 = .ok (.ireturn, 1) := by decide +kernel
theorem d_M_isTold_80 : decode b_M_isTold 80 = .ok (.aload_n 0, 1) := by decide +kernel
theorem d_M_isTold_81 : decode b_M_isTold 81 = .ok (.iload_n 2, 1) := by decide +kernel
theorem d_M_isTold_82 : decode b_M_isTold 82 = .ok (.invokevirtual 53, 3) := by decide +kernel
theorem d_M_isTold_85 : decode b_M_isTold 85 = .ok (.iconst 1, 1) := by decide +kernel
theorem d_M_isTold_86 : decode b_M_isTold 86 = .ok (.ireturn, 1) := by decide +kernel
theorem d_M_isTold_87 : decode b_M_isTold 87 = .ok (.aload_n 0, 1) := by decide +kernel
theorem d_M_isTold_88 : decode b_M_isTold 88 = .ok (.iload_n 2, 1) := by decide +kernel
theorem d_M_isTold_89 : decode b_M_isTold 89 = .ok (.iload_n 3, 1) := by decide +kernel
theorem d_M_isTold_90 : decode b_M_isTold 90 = .ok (.aload_n 0, 1) := by decide +kernel
theorem d_M_isTold_91 : decode b_M_isTold 91 = .ok (.getfield 37, 3) := by decide +kernel
theorem d_M_isTold_94 : decode b_M_isTold 94 = .ok (.iconst 5, 1) := by decide +kernel
theorem d_M_isTold_95 : decode b_M_isTold 95 = .ok (.iload_n 1, 1) := by decide +kernel
theorem d_M_isTold_96 : decode b_M_isTold 96 = .ok (.imul, 1) := by decide +kernel
theorem d_M_isTold_97 : decode b_M_isTold 97 = .ok (.iconst 3, 1) := by decide +kernel
theorem d_M_isTold_98 : decode b_M_isTold 98 = .ok (.iadd, 1) := by decide +kernel
theorem d_M_isTold_99 : decode b_M_isTold 99 = .ok (.iaload, 1) := by decide +kernel
theorem d_M_isTold_100 : decode b_M_isTold 100 = .ok (.aload_n 0, 1) := by decide +kernel
theorem d_M_isTold_101 : decode b_M_isTold 101 = .ok (.getfield 37, 3) := by decide +kernel
theorem d_M_isTold_104 : decode b_M_isTold 104 = .ok (.iconst 5, 1) := by decide +kernel
theorem d_M_isTold_105 : decode b_M_isTold 105 = .ok (.iload_n 1, 1) := by decide +kernel
theorem d_M_isTold_106 : decode b_M_isTold 106 = .ok (.imul, 1) := by decide +kernel
theorem d_M_isTold_107 : decode b_M_isTold 107 = .ok (.iconst 4, 1) := by decide +kernel
theorem d_M_isTold_108 : decode b_M_isTold 108 = .ok (.iadd, 1) := by decide +kernel
theorem d_M_isTold_109 : decode b_M_isTold 109 = .ok (.iaload, 1) := by decide +kernel
theorem d_M_isTold_110 : decode b_M_isTold 110 = .ok (.invokevirtual 88, 3) := by decide +kernel
theorem d_M_isTold_113 : decode b_M_isTold 113 = .ok (.ifCond .ne 5, 3) := by decide +kernel
theorem d_M_isTold_116 : decode b_M_isTold 116 = .ok (.iconst 0, 1) := by decide +kernel
theorem d_M_isTold_117 : decode b_M_isTold 117 = .ok (.ireturn, 1) := by decide +kernel
theorem d_M_isTold_118 : decode b_M_isTold 118 = .ok (.aload_n 0, 1) := by decide +kernel
theorem d_M_isTold_119 : decode b_M_isTold 119 = .ok (.iload_n 2, 1) := by decide +kernel
theorem d_M_isTold_120 : decode b_M_isTold 120 = .ok (.iload_n 3, 1) := by decide +kernel
theorem d_M_isTold_121 : decode b_M_isTold 121 = .ok (.aload_n 0, 1) := by decide +kernel
theorem d_M_isTold_122 : decode b_M_isTold 122 = .ok (.getfield 37, 3) := by decide +kernel
theorem d_M_isTold_125 : decode b_M_isTold 125 = .ok (.iconst 5, 1) := by decide +kernel
theorem d_M_isTold_126 : decode b_M_isTold 126 = .ok (.iload_n 1, 1) := by decide +kernel
theorem d_M_isTold_127 : decode b_M_isTold 127 = .ok (.imul, 1) := by decide +kernel
theorem d_M_isTold_128 : decode b_M_isTold 128 = .ok (.iconst 3, 1) := by decide +kernel
theorem d_M_isTold_129 : decode b_M_isTold 129 = .ok (.iadd, 1) := by decide +kernel
theorem d_M_isTold_130 : decode b_M_isTold 130 = .ok (.iaload, 1) := by decide +kernel
theorem d_M_isTold_131 : decode b_M_isTold 131 = .ok (.aload_n 0, 1) := by decide +kernel
theorem d_M_isTold_132 : decode b_M_isTold 132 = .ok (.getfield 37, 3) := by decide +kernel
theorem d_M_isTold_135 : decode b_M_isTold 135 = .ok (.iconst 5, 1) := by decide +kernel
theorem d_M_isTold_136 : decode b_M_isTold 136 = .ok (.iload_n 1, 1) := by decide +kernel
theorem d_M_isTold_137 : decode b_M_isTold 137 = .ok (.imul, 1) := by decide +kernel
theorem d_M_isTold_138 : decode b_M_isTold 138 = .ok (.iconst 4, 1) := by decide +kernel
theorem d_M_isTold_139 : decode b_M_isTold 139 = .ok (.iadd, 1) := by decide +kernel
theorem d_M_isTold_140 : decode b_M_isTold 140 = .ok (.iaload, 1) := by decide +kernel
theorem d_M_isTold_141 : decode b_M_isTold 141 = .ok (.invokevirtual 92, 3) := by decide +kernel
theorem d_M_isTold_144 : decode b_M_isTold 144 = .ok (.iconst 1, 1) := by decide +kernel
theorem d_M_isTold_145 : decode b_M_isTold 145 = .ok (.ireturn, 1) := by decide +kernel
theorem d_M_isTold_146 : decode b_M_isTold 146 = .ok (.aload_n 0, 1) := by decide +kernel
theorem d_M_isTold_147 : decode b_M_isTold 147 = .ok (.getfield 21, 3) := by decide +kernel
theorem d_M_isTold_150 : decode b_M_isTold 150 = .ok (.iconst 2, 1) := by decide +kernel
theorem d_M_isTold_151 : decode b_M_isTold 151 = .ok (.iload_n 2, 1) := by decide +kernel
theorem d_M_isTold_152 : decode b_M_isTold 152 = .ok (.iastore, 1) := by decide +kernel
theorem d_M_isTold_153 : decode b_M_isTold 153 = .ok (.iload_n 2, 1) := by decide +kernel
theorem d_M_isTold_154 : decode b_M_isTold 154 = .ok (.bipush 10, 2) := by decide +kernel
theorem d_M_isTold_156 : decode b_M_isTold 156 = .ok (.if_icmp .ge 7, 3) := by decide +kernel
theorem d_M_isTold_159 : decode b_M_isTold 159 = .ok (.iconst 1, 1) := by decide +kernel
theorem d_M_isTold_160 : decode b_M_isTold 160 = .ok (.goto 4, 3) := by decide +kernel
theorem d_M_isTold_163 : decode b_M_isTold 163 = .ok (.iconst 0, 1) := by decide +kernel
theorem d_M_isTold_164 : decode b_M_isTold 164 = .ok (.ireturn, 1) := by decide +kernel
theorem d_M_isTold_165 : decode b_M_isTold 165 = .ok (.iload_n 2, 1) := by decide +kernel
theorem d_M_isTold_166 : decode b_M_isTold 166 = .ok (.invokestatic 63, 3) := by decide +kernel
theorem d_M_isTold_169 : decode b_M_isTold 169 = .ok (.ifCond .ne 16, 3) := by decide +kernel
theorem d_M_isTold_172 : decode b_M_isTold 172 = .ok (.aload_n 0, 1) := by decide +kernel
theorem d_M_isTold_173 : decode b_M_isTold 173 = .ok (.getfield 21, 3) := by decide +kernel
theorem d_M_isTold_176 : decode b_M_isTold 176 = .ok (.iconst 3, 1) := by decide +kernel
theorem d_M_isTold_177 : decode b_M_isTold 177 = .ok (.iaload, 1) := by decide +kernel
theorem d_M_isTold_178 : decode b_M_isTold 178 = .ok (.iload_n 2, 1) := by decide +kernel
theorem d_M_isTold_179 : decode b_M_isTold 179 = .ok (.invokestatic 96, 3) := by decide +kernel
theorem d_M_isTold_182 : decode b_M_isTold 182 = .ok (.ifCond .eq 5, 3) := by decide +kernel
theorem d_M_isTold_185 : decode b_M_isTold 185 = .ok (.iconst 0, 1) := by decide +kernel
theorem d_M_isTold_186 : decode b_M_isTold 186 = .ok (.ireturn, 1) := by decide +kernel
theorem d_M_isTold_187 : decode b_M_isTold 187 = .ok (.aload_n 0, 1) := by decide +kernel
theorem d_M_isTold_188 : decode b_M_isTold 188 = .ok (.getfield 21, 3) := by decide +kernel
theorem d_M_isTold_191 : decode b_M_isTold 191 = .ok (.iconst 3, 1) := by decide +kernel
theorem d_M_isTold_192 : decode b_M_isTold 192 = .ok (.dup2, 1) := by decide +kernel
theorem d_M_isTold_193 : decode b_M_isTold 193 = .ok (.iaload, 1) := by decide +kernel
theorem d_M_isTold_194 : decode b_M_isTold 194 = .ok (.iconst 1, 1) := by decide +kernel
theorem d_M_isTold_195 : decode b_M_isTold 195 = .ok (.iload_n 2, 1) := by decide +kernel
theorem d_M_isTold_196 : decode b_M_isTold 196 = .ok (.ishl, 1) := by decide +kernel
theorem d_M_isTold_197 : decode b_M_isTold 197 = .ok (.ior, 1) := by decide +kernel
theorem d_M_isTold_198 : decode b_M_isTold 198 = .ok (.iastore, 1) := by decide +kernel
theorem d_M_isTold_199 : decode b_M_isTold 199 = .ok (.iconst 1, 1) := by decide +kernel
theorem d_M_isTold_200 : decode b_M_isTold 200 = .ok (.ireturn, 1) := by decide +kernel
theorem d_M_isTold_201 : decode b_M_isTold 201 = .ok (.iload_n 2, 1) := by decide +kernel
theorem d_M_isTold_202 : decode b_M_isTold 202 = .ok (.invokestatic 63, 3) := by decide +kernel
theorem d_M_isTold_205 : decode b_M_isTold 205 = .ok (.ifCond .ne 9, 3) := by decide +kernel
theorem d_M_isTold_208 : decode b_M_isTold 208 = .ok (.iload_n 3, 1) := by decide +kernel
theorem d_M_isTold_209 : decode b_M_isTold 209 = .ok (.bipush 20, 2) := by decide +kernel
theorem d_M_isTold_211 : decode b_M_isTold 211 = .ok (.if_icmp .le 5, 3) := by decide +kernel
theorem d_M_isTold_214 : decode b_M_isTold 214 = .ok (.iconst 0, 1) := by decide +kernel
theorem d_M_isTold_215 : decode b_M_isTold 215 = .ok (.ireturn, 1) := by decide +kernel
theorem d_M_isTold_216 : decode b_M_isTold 216 = .ok (.aload_n 0, 1) := by decide +kernel
theorem d_M_isTold_217 : decode b_M_isTold 217 = .ok (.getfield 21, 3) := by decide +kernel
theorem d_M_isTold_220 : decode b_M_isTold 220 = .ok (.bipush 29, 2) := by decide +kernel
theorem d_M_isTold_222 : decode b_M_isTold 222 = .ok (.iload_n 2, 1) := by decide +kernel
theorem d_M_isTold_223 : decode b_M_isTold 223 = .ok (.iadd, 1) := by decide +kernel
theorem d_M_isTold_224 : decode b_M_isTold 224 = .ok (.iload_n 3, 1) := by decide +kernel
theorem d_M_isTold_225 : decode b_M_isTold 225 = .ok (.iastore, 1) := by decide +kernel
theorem d_M_isTold_226 : decode b_M_isTold 226 = .ok (.iconst 1, 1) := by decide +kernel
theorem d_M_isTold_227 : decode b_M_isTold 227 = .ok (.ireturn, 1) := by decide +kernel
theorem d_M_isTold_228 : decode b_M_isTold 228 = .ok (.aload_n 0, 1) := by decide +kernel
theorem d_M_isTold_229 : decode b_M_isTold 229 = .ok (.iload_n 2, 1) := by decide +kernel
theorem d_M_isTold_230 : decode b_M_isTold 230 = .ok (.invokevirtual 81, 3) := by decide +kernel
theorem d_M_isTold_233 : decode b_M_isTold 233 = .ok (.ifCond .ne 16, 3) := by decide +kernel
theorem d_M_isTold_236 : decode b_M_isTold 236 = .ok (.aload_n 0, 1) := by decide +kernel
theorem d_M_isTold_237 : decode b_M_isTold 237 = .ok (.getfield 21, 3) := by decide +kernel
theorem d_M_isTold_240 : decode b_M_isTold 240 = .ok (.iconst 1, 1) := by decide +kernel
theorem d_M_isTold_241 : decode b_M_isTold 241 = .ok (.iaload, 1) := by decide +kernel
theorem d_M_isTold_242 : decode b_M_isTold 242 = .ok (.iload_n 2, 1) := by decide +kernel
theorem d_M_isTold_243 : decode b_M_isTold 243 = .ok (.invokestatic 96, 3) := by decide +kernel
theorem d_M_isTold_246 : decode b_M_isTold 246 = .ok (.ifCond .ne 5, 3) := by decide +kernel
theorem d_M_isTold_249 : decode b_M_isTold 249 = .ok (.iconst 0, 1) := by decide +kernel
theorem d_M_isTold_250 : decode b_M_isTold 250 = .ok (.ireturn, 1) := by decide +kernel
theorem d_M_isTold_251 : decode b_M_isTold 251 = .ok (.aload_n 0, 1) := by decide +kernel
theorem d_M_isTold_252 : decode b_M_isTold 252 = .ok (.getfield 21, 3) := by decide +kernel
theorem d_M_isTold_255 : decode b_M_isTold 255 = .ok (.iconst 1, 1) := by decide +kernel
theorem d_M_isTold_256 : decode b_M_isTold 256 = .ok (.dup2, 1) := by decide +kernel
theorem d_M_isTold_257 : decode b_M_isTold 257 = .ok (.iaload, 1) := by decide +kernel
theorem d_M_isTold_258 : decode b_M_isTold 258 = .ok (.iconst 1, 1) := by decide +kernel
theorem d_M_isTold_259 : decode b_M_isTold 259 = .ok (.iload_n 2, 1) := by decide +kernel
theorem d_M_isTold_260 : decode b_M_isTold 260 = .ok (.ishl, 1) := by decide +kernel
theorem d_M_isTold_261 : decode b_M_isTold 261 = .ok (.ixor, 1) := by decide +kernel
theorem d_M_isTold_262 : decode b_M_isTold 262 = .ok (.iastore, 1) := by decide +kernel
theorem d_M_isTold_263 : decode b_M_isTold 263 = .ok (.iconst 1, 1) := by decide +kernel
theorem d_M_isTold_264 : decode b_M_isTold 264 = .ok (.ireturn, 1) := by decide +kernel
theorem d_M_read_0 : decode b_M_read 0 = .ok (.aload_n 0, 1) := by decide +kernel
theorem d_M_read_1 : decode b_M_read 1 = .ok (.iconst 0, 1) := by decide +kernel
theorem d_M_read_2 : decode b_M_read 2 = .ok (.putfield 1, 3) := by decide +kernel
theorem d_M_read_5 : decode b_M_read 5 = .ok (.aload_n 0, 1) := by decide +kernel
theorem d_M_read_6 : decode b_M_read 6 = .ok (.invokevirtual 163, 3) := by decide +kernel
theorem d_M_read_9 : decode b_M_read 9 = .ok (.istore_n 1, 1) := by decide +kernel
theorem d_M_read_10 : decode b_M_read 10 = .ok (.iload_n 1, 1) := by decide +kernel
theorem d_M_read_11 : decode b_M_read 11 = .ok (.iconst (-1), 1) := by decide +kernel
theorem d_M_read_12 : decode b_M_read 12 = .ok (.if_icmp .eq 8, 3) := by decide +kernel
theorem d_M_read_15 : decode b_M_read 15 = .ok (.bipush (-10), 2) := by decide +kernel
theorem d_M_read_17 : decode b_M_read 17 = .ok (.iload_n 1, 1) := by decide +kernel
theorem d_M_read_18 : decode b_M_read 18 = .ok (.isub, 1) := by decide +kernel
theorem d_M_read_19 : decode b_M_read 19 = .ok (.ireturn, 1) := by decide +kernel
theorem d_M_read_20 : decode b_M_read 20 = .ok (.iconst 0, 1) := by decide +kernel
theorem d_M_read_21 : decode b_M_read 21 = .ok (.istore_n 2, 1) := by decide +kernel
theorem d_M_read_22 : decode b_M_read 22 = .ok (.iload_n 2, 1) := by decide +kernel
theorem d_M_read_23 : decode b_M_read 23 = .ok (.bipush 47, 2) := by decide +kernel
theorem d_M_read_25 : decode b_M_read 25 = .ok (.if_icmp .ge 21, 3) := by decide +kernel
theorem d_M_read_28 : decode b_M_read 28 = .ok (.aload_n 0, 1) := by decide +kernel
theorem d_M_read_29 : decode b_M_read 29 = .ok (.getfield 24, 3) := by decide +kernel
theorem d_M_read_32 : decode b_M_read 32 = .ok (.iload_n 2, 1) := by decide +kernel
theorem d_M_read_33 : decode b_M_read 33 = .ok (.aload_n 0, 1) := by decide +kernel
theorem d_M_read_34 : decode b_M_read 34 = .ok (.getfield 21, 3) := by decide +kernel
theorem d_M_read_37 : decode b_M_read 37 = .ok (.iload_n 2, 1) := by decide +kernel
theorem d_M_read_38 : decode b_M_read 38 = .ok (.iaload, 1) := by decide +kernel
theorem d_M_read_39 : decode b_M_read 39 = .ok (.iastore, 1) := by decide +kernel
theorem d_M_read_40 : decode b_M_read 40 = .ok (.iinc 2 1, 3) := by decide +kernel
theorem d_M_read_43 : decode b_M_read 43 = .ok (.goto (-21), 3) := by decide +kernel
theorem d_M_read_46 : decode b_M_read 46 = .ok (.iconst 0, 1) := by decide +kernel
theorem d_M_read_47 : decode b_M_read 47 = .ok (.istore_n 2, 1) := by decide +kernel
theorem d_M_read_48 : decode b_M_read 48 = .ok (.iload_n 2, 1) := by decide +kernel
theorem d_M_read_49 : decode b_M_read 49 = .ok (.aload_n 0, 1) := by decide +kernel
theorem d_M_read_50 : decode b_M_read 50 = .ok (.getfield 154, 3) := by decide +kernel
theorem d_M_read_53 : decode b_M_read 53 = .ok (.if_icmp .ge 49, 3) := by decide +kernel
theorem d_M_read_56 : decode b_M_read 56 = .ok (.aload_n 0, 1) := by decide +kernel
theorem d_M_read_57 : decode b_M_read 57 = .ok (.iload_n 2, 1) := by decide +kernel
theorem d_M_read_58 : decode b_M_read 58 = .ok (.invokevirtual 166, 3) := by decide +kernel
theorem d_M_read_61 : decode b_M_read 61 = .ok (.ifCond .ne 35, 3) := by decide +kernel
theorem d_M_read_64 : decode b_M_read 64 = .ok (.iconst 0, 1) := by decide +kernel
theorem d_M_read_65 : decode b_M_read 65 = .ok (.istore_n 3, 1) := by decide +kernel
theorem d_M_read_66 : decode b_M_read 66 = .ok (.iload_n 3, 1) := by decide +kernel
theorem d_M_read_67 : decode b_M_read 67 = .ok (.bipush 47, 2) := by decide +kernel
theorem d_M_read_69 : decode b_M_read 69 = .ok (.if_icmp .ge 21, 3) := by decide +kernel
theorem d_M_read_72 : decode b_M_read 72 = .ok (.aload_n 0, 1) := by decide +kernel
theorem d_M_read_73 : decode b_M_read 73 = .ok (.getfield 21, 3) := by decide +kernel
theorem d_M_read_76 : decode b_M_read 76 = .ok (.iload_n 3, 1) := by decide +kernel
theorem d_M_read_77 : decode b_M_read 77 = .ok (.aload_n 0, 1) := by decide +kernel
theorem d_M_read_78 : decode b_M_read 78 = .ok (.getfield 24, 3) := by decide +kernel
theorem d_M_read_81 : decode b_M_read 81 = .ok (.iload_n 3, 1) := by decide +kernel
theorem d_M_read_82 : decode b_M_read 82 = .ok (.iaload, 1) := by decide +kernel
theorem d_M_read_83 : decode b_M_read 83 = .ok (.iastore, 1) := by decide +kernel
theorem d_M_read_84 : decode b_M_read 84 = .ok (.iinc 3 1, 3) := by decide +kernel
theorem d_M_read_87 : decode b_M_read 87 = .ok (.goto (-21), 3) := by decide +kernel
theorem d_M_read_90 : decode b_M_read 90 = .ok (.sipush (-1000), 3) := by decide +kernel
theorem d_M_read_93 : decode b_M_read 93 = .ok (.iload_n 2, 1) := by decide +kernel
theorem d_M_read_94 : decode b_M_read 94 = .ok (.isub, 1) := by decide +kernel
theorem d_M_read_95 : decode b_M_read 95 = .ok (.ireturn, 1) := by decide +kernel
theorem d_M_read_96 : decode b_M_read 96 = .ok (.iinc 2 1, 3) := by decide +kernel
theorem d_M_read_99 : decode b_M_read 99 = .ok (.goto (-51), 3) := by decide +kernel
theorem d_M_read_102 : decode b_M_read 102 = .ok (.aload_n 0, 1) := by decide +kernel
theorem d_M_read_103 : decode b_M_read 103 = .ok (.getfield 21, 3) := by decide +kernel
theorem d_M_read_106 : decode b_M_read 106 = .ok (.iconst 4, 1) := by decide +kernel
theorem d_M_read_107 : decode b_M_read 107 = .ok (.iconst 0, 1) := by decide +kernel
theorem d_M_read_108 : decode b_M_read 108 = .ok (.iastore, 1) := by decide +kernel
theorem d_M_read_109 : decode b_M_read 109 = .ok (.aload_n 0, 1) := by decide +kernel
theorem d_M_read_110 : decode b_M_read 110 = .ok (.getfield 154, 3) := by decide +kernel
theorem d_M_read_113 : decode b_M_read 113 = .ok (.ireturn, 1) := by decide +kernel
theorem d_M_wayOf_0 : decode b_M_wayOf 0 = .ok (.bipush 8, 2) := by decide +kernel
theorem d_M_wayOf_2 : decode b_M_wayOf 2 = .ok (.iload_n 1, 1) := by decide +kernel
theorem d_M_wayOf_3 : decode b_M_wayOf 3 = .ok (.imul, 1) := by decide +kernel
theorem d_M_wayOf_4 : decode b_M_wayOf 4 = .ok (.aload_n 0, 1) := by decide +kernel
theorem d_M_wayOf_5 : decode b_M_wayOf 5 = .ok (.getfield 21, 3) := by decide +kernel
theorem d_M_wayOf_8 : decode b_M_wayOf 8 = .ok (.iconst 0, 1) := by decide +kernel
theorem d_M_wayOf_9 : decode b_M_wayOf 9 = .ok (.iaload, 1) := by decide +kernel
theorem d_M_wayOf_10 : decode b_M_wayOf 10 = .ok (.idiv, 1) := by decide +kernel
theorem d_M_wayOf_11 : decode b_M_wayOf 11 = .ok (.ireturn, 1) := by decide +kernel
theorem d_M_plain_0 : decode b_M_plain 0 = .ok (.aload_n 0, 1) := by decide +kernel
theorem d_M_plain_1 : decode b_M_plain 1 = .ok (.getfield 21, 3) := by decide +kernel
theorem d_M_plain_4 : decode b_M_plain 4 = .ok (.bipush 13, 2) := by decide +kernel
theorem d_M_plain_6 : decode b_M_plain 6 = .ok (.iload_n 1, 1) := by decide +kernel
theorem d_M_plain_7 : decode b_M_plain 7 = .ok (.iadd, 1) := by decide +kernel
theorem d_M_plain_8 : decode b_M_plain 8 = .ok (.iaload, 1) := by decide +kernel
theorem d_M_plain_9 : decode b_M_plain 9 = .ok (.aload_n 0, 1) := by decide +kernel
theorem d_M_plain_10 : decode b_M_plain 10 = .ok (.getfield 21, 3) := by decide +kernel
theorem d_M_plain_13 : decode b_M_plain 13 = .ok (.bipush 21, 2) := by decide +kernel
theorem d_M_plain_15 : decode b_M_plain 15 = .ok (.iload_n 1, 1) := by decide +kernel
theorem d_M_plain_16 : decode b_M_plain 16 = .ok (.iadd, 1) := by decide +kernel
theorem d_M_plain_17 : decode b_M_plain 17 = .ok (.iaload, 1) := by decide +kernel
theorem d_M_plain_18 : decode b_M_plain 18 = .ok (.imul, 1) := by decide +kernel
theorem d_M_plain_19 : decode b_M_plain 19 = .ok (.ireturn, 1) := by decide +kernel
theorem d_M_doubled_0 : decode b_M_doubled 0 = .ok (.aload_n 0, 1) := by decide +kernel
theorem d_M_doubled_1 : decode b_M_doubled 1 = .ok (.iload_n 1, 1) := by decide +kernel
theorem d_M_doubled_2 : decode b_M_doubled 2 = .ok (.invokevirtual 169, 3) := by decide +kernel
theorem d_M_doubled_5 : decode b_M_doubled 5 = .ok (.aload_n 0, 1) := by decide +kernel
theorem d_M_doubled_6 : decode b_M_doubled 6 = .ok (.iload_n 1, 1) := by decide +kernel
theorem d_M_doubled_7 : decode b_M_doubled 7 = .ok (.invokevirtual 169, 3) := by decide +kernel
theorem d_M_doubled_10 : decode b_M_doubled 10 = .ok (.iconst 2, 1) := by decide +kernel
theorem d_M_doubled_11 : decode b_M_doubled 11 = .ok (.idiv, 1) := by decide +kernel
theorem d_M_doubled_12 : decode b_M_doubled 12 = .ok (.iadd, 1) := by decide +kernel
theorem d_M_doubled_13 : decode b_M_doubled 13 = .ok (.ireturn, 1) := by decide +kernel
theorem d_M_loosened_0 : decode b_M_loosened 0 = .ok (.aload_n 0, 1) := by decide +kernel
theorem d_M_loosened_1 : decode b_M_loosened 1 = .ok (.iload_n 1, 1) := by decide +kernel
theorem d_M_loosened_2 : decode b_M_loosened 2 = .ok (.invokevirtual 169, 3) := by decide +kernel
theorem d_M_loosened_5 : decode b_M_loosened 5 = .ok (.iconst 2, 1) := by decide +kernel
theorem d_M_loosened_6 : decode b_M_loosened 6 = .ok (.aload_n 0, 1) := by decide +kernel
theorem d_M_loosened_7 : decode b_M_loosened 7 = .ok (.getfield 21, 3) := by decide +kernel
theorem d_M_loosened_10 : decode b_M_loosened 10 = .ok (.iconst 2, 1) := by decide +kernel
theorem d_M_loosened_11 : decode b_M_loosened 11 = .ok (.iaload, 1) := by decide +kernel
theorem d_M_loosened_12 : decode b_M_loosened 12 = .ok (.imul, 1) := by decide +kernel
theorem d_M_loosened_13 : decode b_M_loosened 13 = .ok (.isub, 1) := by decide +kernel
theorem d_M_loosened_14 : decode b_M_loosened 14 = .ok (.istore_n 2, 1) := by decide +kernel
theorem d_M_loosened_15 : decode b_M_loosened 15 = .ok (.iload_n 2, 1) := by decide +kernel
theorem d_M_loosened_16 : decode b_M_loosened 16 = .ok (.ifCond .ge 7, 3) := by decide +kernel
theorem d_M_loosened_19 : decode b_M_loosened 19 = .ok (.iconst 0, 1) := by decide +kernel
theorem d_M_loosened_20 : decode b_M_loosened 20 = .ok (.goto 4, 3) := by decide +kernel
theorem d_M_loosened_23 : decode b_M_loosened 23 = .ok (.iload_n 2, 1) := by decide +kernel
theorem d_M_loosened_24 : decode b_M_loosened 24 = .ok (.ireturn, 1) := by decide +kernel
theorem d_M_holds_0 : decode b_M_holds 0 = .ok (.aload_n 0, 1) := by decide +kernel
theorem d_M_holds_1 : decode b_M_holds 1 = .ok (.getfield 21, 3) := by decide +kernel
theorem d_M_holds_4 : decode b_M_holds 4 = .ok (.iconst 0, 1) := by decide +kernel
theorem d_M_holds_5 : decode b_M_holds 5 = .ok (.iaload, 1) := by decide +kernel
theorem d_M_holds_6 : decode b_M_holds 6 = .ok (.istore_n 3, 1) := by decide +kernel
theorem d_M_holds_7 : decode b_M_holds 7 = .ok (.aload_n 0, 1) := by decide +kernel
theorem d_M_holds_8 : decode b_M_holds 8 = .ok (.getfield 21, 3) := by decide +kernel
theorem d_M_holds_11 : decode b_M_holds 11 = .ok (.iconst 5, 1) := by decide +kernel
theorem d_M_holds_12 : decode b_M_holds 12 = .ok (.iload_n 1, 1) := by decide +kernel
theorem d_M_holds_13 : decode b_M_holds 13 = .ok (.iadd, 1) := by decide +kernel
theorem d_M_holds_14 : decode b_M_holds 14 = .ok (.iaload, 1) := by decide +kernel
theorem d_M_holds_15 : decode b_M_holds 15 = .ok (.tableswitch 108 1 5 #[33, 39, 48, 54, 64], 33) := by decide +kernel
theorem d_M_holds_48 : decode b_M_holds 48 = .ok (.aload_n 0, 1) := by decide +kernel
theorem d_M_holds_49 : decode b_M_holds 49 = .ok (.iload_n 1, 1) := by decide +kernel
theorem d_M_holds_50 : decode b_M_holds 50 = .ok (.invokevirtual 172, 3) := by decide +kernel
theorem d_M_holds_53 : decode b_M_holds 53 = .ok (.ireturn, 1) := by decide +kernel
theorem d_M_holds_54 : decode b_M_holds 54 = .ok (.aload_n 0, 1) := by decide +kernel
theorem d_M_holds_55 : decode b_M_holds 55 = .ok (.iload_n 1, 1) := by decide +kernel
theorem d_M_holds_56 : decode b_M_holds 56 = .ok (.invokevirtual 169, 3) := by decide +kernel
theorem d_M_holds_59 : decode b_M_holds 59 = .ok (.bipush 10, 2) := by decide +kernel
theorem d_M_holds_61 : decode b_M_holds 61 = .ok (.iadd, 1) := by decide +kernel
theorem d_M_holds_62 : decode b_M_holds 62 = .ok (.ireturn, 1) := by decide +kernel
theorem d_M_holds_63 : decode b_M_holds 63 = .ok (.aload_n 0, 1) := by decide +kernel
theorem d_M_holds_64 : decode b_M_holds 64 = .ok (.iload_n 1, 1) := by decide +kernel
theorem d_M_holds_65 : decode b_M_holds 65 = .ok (.invokevirtual 175, 3) := by decide +kernel
theorem d_M_holds_68 : decode b_M_holds 68 = .ok (.ireturn, 1) := by decide +kernel
theorem d_M_holds_69 : decode b_M_holds 69 = .ok (.aload_n 0, 1) := by decide +kernel
theorem d_M_holds_70 : decode b_M_holds 70 = .ok (.iload_n 1, 1) := by decide +kernel
theorem d_M_holds_71 : decode b_M_holds 71 = .ok (.invokevirtual 175, 3) := by decide +kernel
theorem d_M_holds_74 : decode b_M_holds 74 = .ok (.iconst 1, 1) := by decide +kernel
theorem d_M_holds_75 : decode b_M_holds 75 = .ok (.iadd, 1) := by decide +kernel
theorem d_M_holds_76 : decode b_M_holds 76 = .ok (.iconst 2, 1) := by decide +kernel
theorem d_M_holds_77 : decode b_M_holds 77 = .ok (.idiv, 1) := by decide +kernel
theorem d_M_holds_78 : decode b_M_holds 78 = .ok (.ireturn, 1) := by decide +kernel
theorem d_M_holds_79 : decode b_M_holds 79 = .ok (.aload_n 0, 1) := by decide +kernel
theorem d_M_holds_80 : decode b_M_holds 80 = .ok (.iload_n 1, 1) := by decide +kernel
theorem d_M_holds_81 : decode b_M_holds 81 = .ok (.invokevirtual 172, 3) := by decide +kernel
theorem d_M_holds_84 : decode b_M_holds 84 = .ok (.iload_n 2, 1) := by decide +kernel
theorem d_M_holds_85 : decode b_M_holds 85 = .ok (.iload_n 1, 1) := by decide +kernel
theorem d_M_holds_86 : decode b_M_holds 86 = .ok (.iload_n 3, 1) := by decide +kernel
theorem d_M_holds_87 : decode b_M_holds 87 = .ok (.iadd, 1) := by decide +kernel
theorem d_M_holds_88 : decode b_M_holds 88 = .ok (.iconst 1, 1) := by decide +kernel
theorem d_M_holds_89 : decode b_M_holds 89 = .ok (.isub, 1) := by decide +kernel
theorem d_M_holds_90 : decode b_M_holds 90 = .ok (.iload_n 3, 1) := by decide +kernel
theorem d_M_holds_91 : decode b_M_holds 91 = .ok (.irem, 1) := by decide +kernel
theorem d_M_holds_92 : decode b_M_holds 92 = .ok (.invokestatic 96, 3) := by decide +kernel
theorem d_M_holds_95 : decode b_M_holds 95 = .ok (.ifCond .eq 7, 3) := by decide +kernel
theorem d_M_holds_98 : decode b_M_holds 98 = .ok (.iconst 3, 1) := by decide +kernel
theorem d_M_holds_99 : decode b_M_holds 99 = .ok (.goto 4, 3) := by decide +kernel
theorem d_M_holds_102 : decode b_M_holds 102 = .ok (.iconst 0, 1) := by decide +kernel
theorem d_M_holds_103 : decode b_M_holds 103 = .ok (.iadd, 1) := by decide +kernel
theorem d_M_holds_104 : decode b_M_holds 104 = .ok (.iload_n 2, 1) := by decide +kernel
theorem d_M_holds_105 : decode b_M_holds 105 = .ok (.iload_n 1, 1) := by decide +kernel
theorem d_M_holds_106 : decode b_M_holds 106 = .ok (.iconst 1, 1) := by decide +kernel
theorem d_M_holds_107 : decode b_M_holds 107 = .ok (.iadd, 1) := by decide +kernel
theorem d_M_holds_108 : decode b_M_holds 108 = .ok (.iload_n 3, 1) := by decide +kernel
theorem d_M_holds_109 : decode b_M_holds 109 = .ok (.irem, 1) := by decide +kernel
theorem d_M_holds_110 : decode b_M_holds 110 = .ok (.invokestatic 96, 3) := by decide +kernel
theorem d_M_holds_113 : decode b_M_holds 113 = .ok (.ifCond .eq 7, 3) := by decide +kernel
theorem d_M_holds_116 : decode b_M_holds 116 = .ok (.iconst 3, 1) := by decide +kernel
theorem d_M_holds_117 : decode b_M_holds 117 = .ok (.goto 4, 3) := by decide +kernel
theorem d_M_holds_120 : decode b_M_holds 120 = .ok (.iconst 0, 1) := by decide +kernel
theorem d_M_holds_121 : decode b_M_holds 121 = .ok (.iadd, 1) := by decide +kernel
theorem d_M_holds_122 : decode b_M_holds 122 = .ok (.ireturn, 1) := by decide +kernel
theorem d_M_holds_123 : decode b_M_holds 123 = .ok (.aload_n 0, 1) := by decide +kernel
theorem d_M_holds_124 : decode b_M_holds 124 = .ok (.iload_n 1, 1) := by decide +kernel
theorem d_M_holds_125 : decode b_M_holds 125 = .ok (.invokevirtual 169, 3) := by decide +kernel
theorem d_M_holds_128 : decode b_M_holds 128 = .ok (.ireturn, 1) := by decide +kernel
theorem d_M_strengthBy_0 : decode b_M_strengthBy 0 = .ok (.iload_n 0, 1) := by decide +kernel
theorem d_M_strengthBy_1 : decode b_M_strengthBy 1 = .ok (.iload_n 1, 1) := by decide +kernel
theorem d_M_strengthBy_2 : decode b_M_strengthBy 2 = .ok (.iconst 1, 1) := by decide +kernel
theorem d_M_strengthBy_3 : decode b_M_strengthBy 3 = .ok (.iadd, 1) := by decide +kernel
theorem d_M_strengthBy_4 : decode b_M_strengthBy 4 = .ok (.bipush 8, 2) := by decide +kernel
theorem d_M_strengthBy_6 : decode b_M_strengthBy 6 = .ok (.irem, 1) := by decide +kernel
theorem d_M_strengthBy_7 : decode b_M_strengthBy 7 = .ok (.invokestatic 96, 3) := by decide +kernel
theorem d_M_strengthBy_10 : decode b_M_strengthBy 10 = .ok (.ifCond .ne 17, 3) := by decide +kernel
theorem d_M_strengthBy_13 : decode b_M_strengthBy 13 = .ok (.iload_n 0, 1) := by decide +kernel
theorem d_M_strengthBy_14 : decode b_M_strengthBy 14 = .ok (.iload_n 1, 1) := by decide +kernel
theorem d_M_strengthBy_15 : decode b_M_strengthBy 15 = .ok (.bipush 7, 2) := by decide +kernel
theorem d_M_strengthBy_17 : decode b_M_strengthBy 17 = .ok (.iadd, 1) := by decide +kernel
theorem d_M_strengthBy_18 : decode b_M_strengthBy 18 = .ok (.bipush 8, 2) := by decide +kernel
theorem d_M_strengthBy_20 : decode b_M_strengthBy 20 = .ok (.irem, 1) := by decide +kernel
theorem d_M_strengthBy_21 : decode b_M_strengthBy 21 = .ok (.invokestatic 96, 3) := by decide +kernel
theorem d_M_strengthBy_24 : decode b_M_strengthBy 24 = .ok (.ifCond .eq 7, 3) := by decide +kernel
theorem d_M_strengthBy_27 : decode b_M_strengthBy 27 = .ok (.iconst 1, 1) := by decide +kernel
theorem d_M_strengthBy_28 : decode b_M_strengthBy 28 = .ok (.goto 4, 3) := by decide +kernel
theorem d_M_strengthBy_31 : decode b_M_strengthBy 31 = .ok (.iconst 0, 1) := by decide +kernel
theorem d_M_strengthBy_32 : decode b_M_strengthBy 32 = .ok (.istore_n 3, 1) := by decide +kernel
theorem d_M_strengthBy_33 : decode b_M_strengthBy 33 = .ok (.iload_n 0, 1) := by decide +kernel
theorem d_M_strengthBy_34 : decode b_M_strengthBy 34 = .ok (.iload_n 1, 1) := by decide +kernel
theorem d_M_strengthBy_35 : decode b_M_strengthBy 35 = .ok (.invokestatic 96, 3) := by decide +kernel
theorem d_M_strengthBy_38 : decode b_M_strengthBy 38 = .ok (.ifCond .eq 9, 3) := by decide +kernel
theorem d_M_strengthBy_41 : decode b_M_strengthBy 41 = .ok (.iload_n 2, 1) := by decide +kernel
theorem d_M_strengthBy_42 : decode b_M_strengthBy 42 = .ok (.iconst 2, 1) := by decide +kernel
theorem d_M_strengthBy_43 : decode b_M_strengthBy 43 = .ok (.idiv, 1) := by decide +kernel
theorem d_M_strengthBy_44 : decode b_M_strengthBy 44 = .ok (.goto 16, 3) := by decide +kernel
theorem d_M_strengthBy_47 : decode b_M_strengthBy 47 = .ok (.iload_n 3, 1) := by decide +kernel
theorem d_M_strengthBy_48 : decode b_M_strengthBy 48 = .ok (.ifCond .eq 11, 3) := by decide +kernel
theorem d_M_strengthBy_51 : decode b_M_strengthBy 51 = .ok (.iload_n 2, 1) := by decide +kernel
theorem d_M_strengthBy_52 : decode b_M_strengthBy 52 = .ok (.iload_n 2, 1) := by decide +kernel
theorem d_M_strengthBy_53 : decode b_M_strengthBy 53 = .ok (.iconst 4, 1) := by decide +kernel
theorem d_M_strengthBy_54 : decode b_M_strengthBy 54 = .ok (.idiv, 1) := by decide +kernel
theorem d_M_strengthBy_55 : decode b_M_strengthBy 55 = .ok (.iadd, 1) := by decide +kernel
theorem d_M_strengthBy_56 : decode b_M_strengthBy 56 = .ok (.goto 4, 3) := by decide +kernel
theorem d_M_strengthBy_59 : decode b_M_strengthBy 59 = .ok (.iload_n 2, 1) := by decide +kernel
theorem d_M_strengthBy_60 : decode b_M_strengthBy 60 = .ok (.ireturn, 1) := by decide +kernel
theorem d_M_pullOf_0 : decode b_M_pullOf 0 = .ok (.aload_n 0, 1) := by decide +kernel
theorem d_M_pullOf_1 : decode b_M_pullOf 1 = .ok (.iload_n 1, 1) := by decide +kernel
theorem d_M_pullOf_2 : decode b_M_pullOf 2 = .ok (.invokevirtual 178, 3) := by decide +kernel
theorem d_M_pullOf_5 : decode b_M_pullOf 5 = .ok (.iload 4, 2) := by decide +kernel
theorem d_M_pullOf_7 : decode b_M_pullOf 7 = .ok (.iadd, 1) := by decide +kernel
theorem d_M_pullOf_8 : decode b_M_pullOf 8 = .ok (.iload_n 2, 1) := by decide +kernel
theorem d_M_pullOf_9 : decode b_M_pullOf 9 = .ok (.isub, 1) := by decide +kernel
theorem d_M_pullOf_10 : decode b_M_pullOf 10 = .ok (.bipush 16, 2) := by decide +kernel
theorem d_M_pullOf_12 : decode b_M_pullOf 12 = .ok (.iadd, 1) := by decide +kernel
theorem d_M_pullOf_13 : decode b_M_pullOf 13 = .ok (.bipush 8, 2) := by decide +kernel
theorem d_M_pullOf_15 : decode b_M_pullOf 15 = .ok (.irem, 1) := by decide +kernel
theorem d_M_pullOf_16 : decode b_M_pullOf 16 = .ok (.istore 6, 2) := by decide +kernel
theorem d_M_pullOf_18 : decode b_M_pullOf 18 = .ok (.iload 6, 2) := by decide +kernel
theorem d_M_pullOf_20 : decode b_M_pullOf 20 = .ok (.iconst 4, 1) := by decide +kernel
theorem d_M_pullOf_21 : decode b_M_pullOf 21 = .ok (.if_icmp .le 11, 3) := by decide +kernel
theorem d_M_pullOf_24 : decode b_M_pullOf 24 = .ok (.bipush 8, 2) := by decide +kernel
theorem d_M_pullOf_26 : decode b_M_pullOf 26 = .ok (.iload 6, 2) := by decide +kernel
theorem d_M_pullOf_28 : decode b_M_pullOf 28 = .ok (.isub, 1) := by decide +kernel
theorem d_M_pullOf_29 : decode b_M_pullOf 29 = .ok (.goto 5, 3) := by decide +kernel
theorem d_M_pullOf_32 : decode b_M_pullOf 32 = .ok (.iload 6, 2) := by decide +kernel
theorem d_M_pullOf_34 : decode b_M_pullOf 34 = .ok (.istore 6, 2) := by decide +kernel
theorem d_M_pullOf_36 : decode b_M_pullOf 36 = .ok (.iload 5, 2) := by decide +kernel
theorem d_M_pullOf_38 : decode b_M_pullOf 38 = .ok (.iload_n 2, 1) := by decide +kernel
theorem d_M_pullOf_39 : decode b_M_pullOf 39 = .ok (.iload_n 3, 1) := by decide +kernel
theorem d_M_pullOf_40 : decode b_M_pullOf 40 = .ok (.invokestatic 181, 3) := by decide +kernel
theorem d_M_pullOf_43 : decode b_M_pullOf 43 = .ok (.iconst 4, 1) := by decide +kernel
theorem d_M_pullOf_44 : decode b_M_pullOf 44 = .ok (.iload 6, 2) := by decide +kernel
theorem d_M_pullOf_46 : decode b_M_pullOf 46 = .ok (.isub, 1) := by decide +kernel
theorem d_M_pullOf_47 : decode b_M_pullOf 47 = .ok (.imul, 1) := by decide +kernel
theorem d_M_pullOf_48 : decode b_M_pullOf 48 = .ok (.iconst 4, 1) := by decide +kernel
theorem d_M_pullOf_49 : decode b_M_pullOf 49 = .ok (.idiv, 1) := by decide +kernel
theorem d_M_pullOf_50 : decode b_M_pullOf 50 = .ok (.ireturn, 1) := by decide +kernel
theorem d_M_takesNone_0 : decode b_M_takesNone 0 = .ok (.iconst 1, 1) := by decide +kernel
theorem d_M_takesNone_1 : decode b_M_takesNone 1 = .ok (.istore 6, 2) := by decide +kernel
theorem d_M_takesNone_3 : decode b_M_takesNone 3 = .ok (.iconst 0, 1) := by decide +kernel
theorem d_M_takesNone_4 : decode b_M_takesNone 4 = .ok (.istore 7, 2) := by decide +kernel
theorem d_M_takesNone_6 : decode b_M_takesNone 6 = .ok (.iload 7, 2) := by decide +kernel
theorem d_M_takesNone_8 : decode b_M_takesNone 8 = .ok (.aload_n 0, 1) := by decide +kernel
theorem d_M_takesNone_9 : decode b_M_takesNone 9 = .ok (.getfield 21, 3) := by decide +kernel
theorem d_M_takesNone_12 : decode b_M_takesNone 12 = .ok (.iconst 0, 1) := by decide +kernel
theorem d_M_takesNone_13 : decode b_M_takesNone 13 = .ok (.iaload, 1) := by decide +kernel
theorem d_M_takesNone_14 : decode b_M_takesNone 14 = .ok (.if_icmp .ge 52, 3) := by decide +kernel
theorem d_M_takesNone_17 : decode b_M_takesNone 17 = .ok (.iload 6, 2) := by decide +kernel
theorem d_M_takesNone_19 : decode b_M_takesNone 19 = .ok (.ifCond .eq 38, 3) := by decide +kernel
theorem d_M_takesNone_22 : decode b_M_takesNone 22 = .ok (.iload_n 1, 1) := by decide +kernel
theorem d_M_takesNone_23 : decode b_M_takesNone 23 = .ok (.iload 7, 2) := by decide +kernel
theorem d_M_takesNone_25 : decode b_M_takesNone 25 = .ok (.invokestatic 96, 3) := by decide +kernel
theorem d_M_takesNone_28 : decode b_M_takesNone 28 = .ok (.ifCond .eq 25, 3) := by decide +kernel
theorem d_M_takesNone_31 : decode b_M_takesNone 31 = .ok (.aload_n 0, 1) := by decide +kernel
theorem d_M_takesNone_32 : decode b_M_takesNone 32 = .ok (.iload 7, 2) := by decide +kernel
theorem d_M_takesNone_34 : decode b_M_takesNone 34 = .ok (.iload_n 2, 1) := by decide +kernel
theorem d_M_takesNone_35 : decode b_M_takesNone 35 = .ok (.iload_n 3, 1) := by decide +kernel
theorem d_M_takesNone_36 : decode b_M_takesNone 36 = .ok (.iload 4, 2) := by decide +kernel
theorem d_M_takesNone_38 : decode b_M_takesNone 38 = .ok (.iload 5, 2) := by decide +kernel
theorem d_M_takesNone_40 : decode b_M_takesNone 40 = .ok (.invokevirtual 185, 3) := by decide +kernel
theorem d_M_takesNone_43 : decode b_M_takesNone 43 = .ok (.aload_n 0, 1) := by decide +kernel
theorem d_M_takesNone_44 : decode b_M_takesNone 44 = .ok (.iload 7, 2) := by decide +kernel
theorem d_M_takesNone_46 : decode b_M_takesNone 46 = .ok (.iload_n 1, 1) := by decide +kernel
theorem d_M_takesNone_47 : decode b_M_takesNone 47 = .ok (.invokevirtual 189, 3) := by decide +kernel
theorem d_M_takesNone_50 : decode b_M_takesNone 50 = .ok (.if_icmp .gt 7, 3) := by decide +kernel
theorem d_M_takesNone_53 : decode b_M_takesNone 53 = .ok (.iconst 1, 1) := by decide +kernel
theorem d_M_takesNone_54 : decode b_M_takesNone 54 = .ok (.goto 4, 3) := by decide +kernel
theorem d_M_takesNone_57 : decode b_M_takesNone 57 = .ok (.iconst 0, 1) := by decide +kernel
theorem d_M_takesNone_58 : decode b_M_takesNone 58 = .ok (.istore 6, 2) := by decide +kernel
theorem d_M_takesNone_60 : decode b_M_takesNone 60 = .ok (.iinc 7 1, 3) := by decide +kernel
theorem d_M_takesNone_63 : decode b_M_takesNone 63 = .ok (.goto (-57), 3) := by decide +kernel
theorem d_M_takesNone_66 : decode b_M_takesNone 66 = .ok (.iload 6, 2) := by decide +kernel
theorem d_M_takesNone_68 : decode b_M_takesNone 68 = .ok (.ireturn, 1) := by decide +kernel
theorem d_M_takesNoneNow_0 : decode b_M_takesNoneNow 0 = .ok (.aload_n 0, 1) := by decide +kernel
theorem d_M_takesNoneNow_1 : decode b_M_takesNoneNow 1 = .ok (.aload_n 0, 1) := by decide +kernel
theorem d_M_takesNoneNow_2 : decode b_M_takesNoneNow 2 = .ok (.getfield 21, 3) := by decide +kernel
theorem d_M_takesNoneNow_5 : decode b_M_takesNoneNow 5 = .ok (.iconst 1, 1) := by decide +kernel
theorem d_M_takesNoneNow_6 : decode b_M_takesNoneNow 6 = .ok (.iaload, 1) := by decide +kernel
theorem d_M_takesNoneNow_7 : decode b_M_takesNoneNow 7 = .ok (.iload_n 1, 1) := by decide +kernel
theorem d_M_takesNoneNow_8 : decode b_M_takesNoneNow 8 = .ok (.iload_n 2, 1) := by decide +kernel
theorem d_M_takesNoneNow_9 : decode b_M_takesNoneNow 9 = .ok (.iconst 0, 1) := by decide +kernel
theorem d_M_takesNoneNow_10 : decode b_M_takesNoneNow 10 = .ok (.aload_n 0, 1) := by decide +kernel
theorem d_M_takesNoneNow_11 : decode b_M_takesNoneNow 11 = .ok (.getfield 21, 3) := by decide +kernel
theorem d_M_takesNoneNow_14 : decode b_M_takesNoneNow 14 = .ok (.iconst 3, 1) := by decide +kernel
theorem d_M_takesNoneNow_15 : decode b_M_takesNoneNow 15 = .ok (.iaload, 1) := by decide +kernel
theorem d_M_takesNoneNow_16 : decode b_M_takesNoneNow 16 = .ok (.invokevirtual 192, 3) := by decide +kernel
theorem d_M_takesNoneNow_19 : decode b_M_takesNoneNow 19 = .ok (.ireturn, 1) := by decide +kernel
theorem d_M_nextOf_0 : decode b_M_nextOf 0 = .ok (.aload_n 0, 1) := by decide +kernel
theorem d_M_nextOf_1 : decode b_M_nextOf 1 = .ok (.getfield 21, 3) := by decide +kernel
theorem d_M_nextOf_4 : decode b_M_nextOf 4 = .ok (.iconst 0, 1) := by decide +kernel
theorem d_M_nextOf_5 : decode b_M_nextOf 5 = .ok (.iaload, 1) := by decide +kernel
theorem d_M_nextOf_6 : decode b_M_nextOf 6 = .ok (.istore 4, 2) := by decide +kernel
theorem d_M_nextOf_8 : decode b_M_nextOf 8 = .ok (.iload_n 2, 1) := by decide +kernel
theorem d_M_nextOf_9 : decode b_M_nextOf 9 = .ok (.iload_n 3, 1) := by decide +kernel
theorem d_M_nextOf_10 : decode b_M_nextOf 10 = .ok (.iadd, 1) := by decide +kernel
theorem d_M_nextOf_11 : decode b_M_nextOf 11 = .ok (.iload 4, 2) := by decide +kernel
theorem d_M_nextOf_13 : decode b_M_nextOf 13 = .ok (.iadd, 1) := by decide +kernel
theorem d_M_nextOf_14 : decode b_M_nextOf 14 = .ok (.iload 4, 2) := by decide +kernel
theorem d_M_nextOf_16 : decode b_M_nextOf 16 = .ok (.irem, 1) := by decide +kernel
theorem d_M_nextOf_17 : decode b_M_nextOf 17 = .ok (.istore 5, 2) := by decide +kernel
theorem d_M_nextOf_19 : decode b_M_nextOf 19 = .ok (.iload_n 1, 1) := by decide +kernel
theorem d_M_nextOf_20 : decode b_M_nextOf 20 = .ok (.iload 5, 2) := by decide +kernel
theorem d_M_nextOf_22 : decode b_M_nextOf 22 = .ok (.invokestatic 96, 3) := by decide +kernel
theorem d_M_nextOf_25 : decode b_M_nextOf 25 = .ok (.ifCond .ne 18, 3) := by decide +kernel
theorem d_M_nextOf_28 : decode b_M_nextOf 28 = .ok (.iload 5, 2) := by decide +kernel
theorem d_M_nextOf_30 : decode b_M_nextOf 30 = .ok (.iload_n 3, 1) := by decide +kernel
theorem d_M_nextOf_31 : decode b_M_nextOf 31 = .ok (.iadd, 1) := by decide +kernel
theorem d_M_nextOf_32 : decode b_M_nextOf 32 = .ok (.iload 4, 2) := by decide +kernel
theorem d_M_nextOf_34 : decode b_M_nextOf 34 = .ok (.iadd, 1) := by decide +kernel
theorem d_M_nextOf_35 : decode b_M_nextOf 35 = .ok (.iload 4, 2) := by decide +kernel
theorem d_M_nextOf_37 : decode b_M_nextOf 37 = .ok (.irem, 1) := by decide +kernel
theorem d_M_nextOf_38 : decode b_M_nextOf 38 = .ok (.istore 5, 2) := by decide +kernel
theorem d_M_nextOf_40 : decode b_M_nextOf 40 = .ok (.goto (-21), 3) := by decide +kernel
theorem d_M_nextOf_43 : decode b_M_nextOf 43 = .ok (.iload 5, 2) := by decide +kernel
theorem d_M_nextOf_45 : decode b_M_nextOf 45 = .ok (.ireturn, 1) := by decide +kernel
theorem d_M_mostOf_0 : decode b_M_mostOf 0 = .ok (.iconst (-1), 1) := by decide +kernel
theorem d_M_mostOf_1 : decode b_M_mostOf 1 = .ok (.istore_n 2, 1) := by decide +kernel
theorem d_M_mostOf_2 : decode b_M_mostOf 2 = .ok (.iconst 0, 1) := by decide +kernel
theorem d_M_mostOf_3 : decode b_M_mostOf 3 = .ok (.istore_n 3, 1) := by decide +kernel
theorem d_M_mostOf_4 : decode b_M_mostOf 4 = .ok (.iconst 0, 1) := by decide +kernel
theorem d_M_mostOf_5 : decode b_M_mostOf 5 = .ok (.istore 4, 2) := by decide +kernel
theorem d_M_mostOf_7 : decode b_M_mostOf 7 = .ok (.iload 4, 2) := by decide +kernel
theorem d_M_mostOf_9 : decode b_M_mostOf 9 = .ok (.aload_n 0, 1) := by decide +kernel
theorem d_M_mostOf_10 : decode b_M_mostOf 10 = .ok (.getfield 21, 3) := by decide +kernel
theorem d_M_mostOf_13 : decode b_M_mostOf 13 = .ok (.iconst 0, 1) := by decide +kernel
theorem d_M_mostOf_14 : decode b_M_mostOf 14 = .ok (.iaload, 1) := by decide +kernel
theorem d_M_mostOf_15 : decode b_M_mostOf 15 = .ok (.if_icmp .ge 65, 3) := by decide +kernel
theorem d_M_mostOf_18 : decode b_M_mostOf 18 = .ok (.iload_n 1, 1) := by decide +kernel
theorem d_M_mostOf_19 : decode b_M_mostOf 19 = .ok (.iload 4, 2) := by decide +kernel
theorem d_M_mostOf_21 : decode b_M_mostOf 21 = .ok (.invokestatic 96, 3) := by decide +kernel
theorem d_M_mostOf_24 : decode b_M_mostOf 24 = .ok (.ifCond .eq 21, 3) := by decide +kernel
theorem d_M_mostOf_27 : decode b_M_mostOf 27 = .ok (.aload_n 0, 1) := by decide +kernel
theorem d_M_mostOf_28 : decode b_M_mostOf 28 = .ok (.getfield 40, 3) := by decide +kernel
theorem d_M_mostOf_31 : decode b_M_mostOf 31 = .ok (.iload 4, 2) := by decide +kernel
theorem d_M_mostOf_33 : decode b_M_mostOf 33 = .ok (.iaload, 1) := by decide +kernel
theorem d_M_mostOf_34 : decode b_M_mostOf 34 = .ok (.aload_n 0, 1) := by decide +kernel
theorem d_M_mostOf_35 : decode b_M_mostOf 35 = .ok (.iload 4, 2) := by decide +kernel
theorem d_M_mostOf_37 : decode b_M_mostOf 37 = .ok (.iload_n 1, 1) := by decide +kernel
theorem d_M_mostOf_38 : decode b_M_mostOf 38 = .ok (.invokevirtual 189, 3) := by decide +kernel
theorem d_M_mostOf_41 : decode b_M_mostOf 41 = .ok (.isub, 1) := by decide +kernel
theorem d_M_mostOf_42 : decode b_M_mostOf 42 = .ok (.goto 4, 3) := by decide +kernel
theorem d_M_mostOf_45 : decode b_M_mostOf 45 = .ok (.iconst 0, 1) := by decide +kernel
theorem d_M_mostOf_46 : decode b_M_mostOf 46 = .ok (.istore 5, 2) := by decide +kernel
theorem d_M_mostOf_48 : decode b_M_mostOf 48 = .ok (.iload 5, 2) := by decide +kernel
theorem d_M_mostOf_50 : decode b_M_mostOf 50 = .ok (.iload_n 3, 1) := by decide +kernel
theorem d_M_mostOf_51 : decode b_M_mostOf 51 = .ok (.if_icmp .le 8, 3) := by decide +kernel
theorem d_M_mostOf_54 : decode b_M_mostOf 54 = .ok (.iload 4, 2) := by decide +kernel
theorem d_M_mostOf_56 : decode b_M_mostOf 56 = .ok (.goto 4, 3) := by decide +kernel
theorem d_M_mostOf_59 : decode b_M_mostOf 59 = .ok (.iload_n 2, 1) := by decide +kernel
theorem d_M_mostOf_60 : decode b_M_mostOf 60 = .ok (.istore_n 2, 1) := by decide +kernel
theorem d_M_mostOf_61 : decode b_M_mostOf 61 = .ok (.iload 5, 2) := by decide +kernel
theorem d_M_mostOf_63 : decode b_M_mostOf 63 = .ok (.iload_n 3, 1) := by decide +kernel
theorem d_M_mostOf_64 : decode b_M_mostOf 64 = .ok (.if_icmp .le 8, 3) := by decide +kernel
theorem d_M_mostOf_67 : decode b_M_mostOf 67 = .ok (.iload 5, 2) := by decide +kernel
theorem d_M_mostOf_69 : decode b_M_mostOf 69 = .ok (.goto 4, 3) := by decide +kernel
theorem d_M_mostOf_72 : decode b_M_mostOf 72 = .ok (.iload_n 3, 1) := by decide +kernel
theorem d_M_mostOf_73 : decode b_M_mostOf 73 = .ok (.istore_n 3, 1) := by decide +kernel
theorem d_M_mostOf_74 : decode b_M_mostOf 74 = .ok (.iinc 4 1, 3) := by decide +kernel
theorem d_M_mostOf_77 : decode b_M_mostOf 77 = .ok (.goto (-70), 3) := by decide +kernel
theorem d_M_mostOf_80 : decode b_M_mostOf 80 = .ok (.iload_n 2, 1) := by decide +kernel
theorem d_M_mostOf_81 : decode b_M_mostOf 81 = .ok (.ireturn, 1) := by decide +kernel
theorem d_M_behind_0 : decode b_M_behind 0 = .ok (.iload_n 1, 1) := by decide +kernel
theorem d_M_behind_1 : decode b_M_behind 1 = .ok (.istore 4, 2) := by decide +kernel
theorem d_M_behind_3 : decode b_M_behind 3 = .ok (.aload_n 0, 1) := by decide +kernel
theorem d_M_behind_4 : decode b_M_behind 4 = .ok (.iconst 0, 1) := by decide +kernel
theorem d_M_behind_5 : decode b_M_behind 5 = .ok (.putfield 196, 3) := by decide +kernel
theorem d_M_behind_8 : decode b_M_behind 8 = .ok (.iconst 0, 1) := by decide +kernel
theorem d_M_behind_9 : decode b_M_behind 9 = .ok (.istore 5, 2) := by decide +kernel
theorem d_M_behind_11 : decode b_M_behind 11 = .ok (.iload 5, 2) := by decide +kernel
theorem d_M_behind_13 : decode b_M_behind 13 = .ok (.aload_n 0, 1) := by decide +kernel
theorem d_M_behind_14 : decode b_M_behind 14 = .ok (.getfield 21, 3) := by decide +kernel
theorem d_M_behind_17 : decode b_M_behind 17 = .ok (.iconst 0, 1) := by decide +kernel
theorem d_M_behind_18 : decode b_M_behind 18 = .ok (.iaload, 1) := by decide +kernel
theorem d_M_behind_19 : decode b_M_behind 19 = .ok (.if_icmp .ge 45, 3) := by decide +kernel
theorem d_M_behind_22 : decode b_M_behind 22 = .ok (.aload_n 0, 1) := by decide +kernel
theorem d_M_behind_23 : decode b_M_behind 23 = .ok (.getfield 40, 3) := by decide +kernel
theorem d_M_behind_26 : decode b_M_behind 26 = .ok (.iload 5, 2) := by decide +kernel
theorem d_M_behind_28 : decode b_M_behind 28 = .ok (.iload 4, 2) := by decide +kernel
theorem d_M_behind_30 : decode b_M_behind 30 = .ok (.iload 5, 2) := by decide +kernel
theorem d_M_behind_32 : decode b_M_behind 32 = .ok (.invokestatic 96, 3) := by decide +kernel
theorem d_M_behind_35 : decode b_M_behind 35 = .ok (.ifCond .eq 21, 3) := by decide +kernel
theorem d_M_behind_38 : decode b_M_behind 38 = .ok (.aload_n 0, 1) := by decide +kernel
theorem d_M_behind_39 : decode b_M_behind 39 = .ok (.iload 5, 2) := by decide +kernel
theorem d_M_behind_41 : decode b_M_behind 41 = .ok (.iload_n 2, 1) := by decide +kernel
theorem d_M_behind_42 : decode b_M_behind 42 = .ok (.iload_n 3, 1) := by decide +kernel
theorem d_M_behind_43 : decode b_M_behind 43 = .ok (.iconst 0, 1) := by decide +kernel
theorem d_M_behind_44 : decode b_M_behind 44 = .ok (.aload_n 0, 1) := by decide +kernel
theorem d_M_behind_45 : decode b_M_behind 45 = .ok (.getfield 21, 3) := by decide +kernel
theorem d_M_behind_48 : decode b_M_behind 48 = .ok (.iconst 3, 1) := by decide +kernel
theorem d_M_behind_49 : decode b_M_behind 49 = .ok (.iaload, 1) := by decide +kernel
theorem d_M_behind_50 : decode b_M_behind 50 = .ok (.invokevirtual 185, 3) := by decide +kernel
theorem d_M_behind_53 : decode b_M_behind 53 = .ok (.goto 4, 3) := by decide +kernel
theorem d_M_behind_56 : decode b_M_behind 56 = .ok (.iconst 0, 1) := by decide +kernel
theorem d_M_behind_57 : decode b_M_behind 57 = .ok (.iastore, 1) := by decide +kernel
theorem d_M_behind_58 : decode b_M_behind 58 = .ok (.iinc 5 1, 3) := by decide +kernel
theorem d_M_behind_61 : decode b_M_behind 61 = .ok (.goto (-50), 3) := by decide +kernel
theorem d_M_behind_64 : decode b_M_behind 64 = .ok (.aload_n 0, 1) := by decide +kernel
theorem d_M_behind_65 : decode b_M_behind 65 = .ok (.iload 4, 2) := by decide +kernel
theorem d_M_behind_67 : decode b_M_behind 67 = .ok (.invokevirtual 199, 3) := by decide +kernel
theorem d_M_behind_70 : decode b_M_behind 70 = .ok (.istore 5, 2) := by decide +kernel
theorem d_M_behind_72 : decode b_M_behind 72 = .ok (.iload 5, 2) := by decide +kernel
theorem d_M_behind_74 : decode b_M_behind 74 = .ok (.iconst (-1), 1) := by decide +kernel
theorem d_M_behind_75 : decode b_M_behind 75 = .ok (.if_icmp .eq 108, 3) := by decide +kernel
theorem d_M_behind_78 : decode b_M_behind 78 = .ok (.iload 4, 2) := by decide +kernel
theorem d_M_behind_80 : decode b_M_behind 80 = .ok (.iconst 1, 1) := by decide +kernel
theorem d_M_behind_81 : decode b_M_behind 81 = .ok (.iload 5, 2) := by decide +kernel
theorem d_M_behind_83 : decode b_M_behind 83 = .ok (.ishl, 1) := by decide +kernel
theorem d_M_behind_84 : decode b_M_behind 84 = .ok (.ixor, 1) := by decide +kernel
theorem d_M_behind_85 : decode b_M_behind 85 = .ok (.istore 4, 2) := by decide +kernel
theorem d_M_behind_87 : decode b_M_behind 87 = .ok (.aload_n 0, 1) := by decide +kernel
theorem d_M_behind_88 : decode b_M_behind 88 = .ok (.getfield 43, 3) := by decide +kernel
theorem d_M_behind_91 : decode b_M_behind 91 = .ok (.aload_n 0, 1) := by decide +kernel
theorem d_M_behind_92 : decode b_M_behind 92 = .ok (.getfield 196, 3) := by decide +kernel
theorem d_M_behind_95 : decode b_M_behind 95 = .ok (.iload 5, 2) := by decide +kernel
theorem d_M_behind_97 : decode b_M_behind 97 = .ok (.iastore, 1) := by decide +kernel
theorem d_M_behind_98 : decode b_M_behind 98 = .ok (.aload_n 0, 1) := by decide +kernel
theorem d_M_behind_99 : decode b_M_behind 99 = .ok (.dup, 1) := by decide +kernel
theorem d_M_behind_100 : decode b_M_behind 100 = .ok (.getfield 196, 3) := by decide +kernel
theorem d_M_behind_103 : decode b_M_behind 103 = .ok (.iconst 1, 1) := by decide +kernel
theorem d_M_behind_104 : decode b_M_behind 104 = .ok (.iadd, 1) := by decide +kernel
theorem d_M_behind_105 : decode b_M_behind 105 = .ok (.putfield 196, 3) := by decide +kernel
theorem d_M_behind_108 : decode b_M_behind 108 = .ok (.iload 4, 2) := by decide +kernel
theorem d_M_behind_110 : decode b_M_behind 110 = .ok (.ifCond .eq 62, 3) := by decide +kernel
theorem d_M_behind_113 : decode b_M_behind 113 = .ok (.aload_n 0, 1) := by decide +kernel
theorem d_M_behind_114 : decode b_M_behind 114 = .ok (.getfield 40, 3) := by decide +kernel
theorem d_M_behind_117 : decode b_M_behind 117 = .ok (.iload 5, 2) := by decide +kernel
theorem d_M_behind_119 : decode b_M_behind 119 = .ok (.iaload, 1) := by decide +kernel
theorem d_M_behind_120 : decode b_M_behind 120 = .ok (.iconst 1, 1) := by decide +kernel
theorem d_M_behind_121 : decode b_M_behind 121 = .ok (.iadd, 1) := by decide +kernel
theorem d_M_behind_122 : decode b_M_behind 122 = .ok (.iconst 2, 1) := by decide +kernel
theorem d_M_behind_123 : decode b_M_behind 123 = .ok (.idiv, 1) := by decide +kernel
theorem d_M_behind_124 : decode b_M_behind 124 = .ok (.istore 6, 2) := by decide +kernel
theorem d_M_behind_126 : decode b_M_behind 126 = .ok (.aload_n 0, 1) := by decide +kernel
theorem d_M_behind_127 : decode b_M_behind 127 = .ok (.getfield 40, 3) := by decide +kernel
theorem d_M_behind_130 : decode b_M_behind 130 = .ok (.aload_n 0, 1) := by decide +kernel
theorem d_M_behind_131 : decode b_M_behind 131 = .ok (.iload 4, 2) := by decide +kernel
theorem d_M_behind_133 : decode b_M_behind 133 = .ok (.iload 5, 2) := by decide +kernel
theorem d_M_behind_135 : decode b_M_behind 135 = .ok (.iconst 1, 1) := by decide +kernel
theorem d_M_behind_136 : decode b_M_behind 136 = .ok (.invokevirtual 202, 3) := by decide +kernel
theorem d_M_behind_139 : decode b_M_behind 139 = .ok (.dup2, 1) := by decide +kernel
theorem d_M_behind_140 : decode b_M_behind 140 = .ok (.iaload, 1) := by decide +kernel
theorem d_M_behind_141 : decode b_M_behind 141 = .ok (.iload 6, 2) := by decide +kernel
theorem d_M_behind_143 : decode b_M_behind 143 = .ok (.iadd, 1) := by decide +kernel
theorem d_M_behind_144 : decode b_M_behind 144 = .ok (.iastore, 1) := by decide +kernel
theorem d_M_behind_145 : decode b_M_behind 145 = .ok (.aload_n 0, 1) := by decide +kernel
theorem d_M_behind_146 : decode b_M_behind 146 = .ok (.getfield 40, 3) := by decide +kernel
theorem d_M_behind_149 : decode b_M_behind 149 = .ok (.aload_n 0, 1) := by decide +kernel
theorem d_M_behind_150 : decode b_M_behind 150 = .ok (.iload 4, 2) := by decide +kernel
theorem d_M_behind_152 : decode b_M_behind 152 = .ok (.iload 5, 2) := by decide +kernel
theorem d_M_behind_154 : decode b_M_behind 154 = .ok (.iconst (-1), 1) := by decide +kernel
theorem d_M_behind_155 : decode b_M_behind 155 = .ok (.invokevirtual 202, 3) := by decide +kernel
theorem d_M_behind_158 : decode b_M_behind 158 = .ok (.dup2, 1) := by decide +kernel
theorem d_M_behind_159 : decode b_M_behind 159 = .ok (.iaload, 1) := by decide +kernel
theorem d_M_behind_160 : decode b_M_behind 160 = .ok (.aload_n 0, 1) := by decide +kernel
theorem d_M_behind_161 : decode b_M_behind 161 = .ok (.getfield 40, 3) := by decide +kernel
theorem d_M_behind_164 : decode b_M_behind 164 = .ok (.iload 5, 2) := by decide +kernel
theorem d_M_behind_166 : decode b_M_behind 166 = .ok (.iaload, 1) := by decide +kernel
theorem d_M_behind_167 : decode b_M_behind 167 = .ok (.iload 6, 2) := by decide +kernel
theorem d_M_behind_169 : decode b_M_behind 169 = .ok (.isub, 1) := by decide +kernel
theorem d_M_behind_170 : decode b_M_behind 170 = .ok (.iadd, 1) := by decide +kernel
theorem d_M_behind_171 : decode b_M_behind 171 = .ok (.iastore, 1) := by decide +kernel
theorem d_M_behind_172 : decode b_M_behind 172 = .ok (.aload_n 0, 1) := by decide +kernel
theorem d_M_behind_173 : decode b_M_behind 173 = .ok (.iload 4, 2) := by decide +kernel
theorem d_M_behind_175 : decode b_M_behind 175 = .ok (.invokevirtual 199, 3) := by decide +kernel
theorem d_M_behind_178 : decode b_M_behind 178 = .ok (.istore 5, 2) := by decide +kernel
theorem d_M_behind_180 : decode b_M_behind 180 = .ok (.goto (-108), 3) := by decide +kernel
theorem d_M_behind_183 : decode b_M_behind 183 = .ok (.iload 4, 2) := by decide +kernel
theorem d_M_behind_185 : decode b_M_behind 185 = .ok (.ireturn, 1) := by decide +kernel
theorem d_M_keepStood_0 : decode b_M_keepStood 0 = .ok (.aload_n 0, 1) := by decide +kernel
theorem d_M_keepStood_1 : decode b_M_keepStood 1 = .ok (.getfield 21, 3) := by decide +kernel
theorem d_M_keepStood_4 : decode b_M_keepStood 4 = .ok (.iconst 4, 1) := by decide +kernel
theorem d_M_keepStood_5 : decode b_M_keepStood 5 = .ok (.iaload, 1) := by decide +kernel
theorem d_M_keepStood_6 : decode b_M_keepStood 6 = .ok (.bipush 10, 2) := by decide +kernel
theorem d_M_keepStood_8 : decode b_M_keepStood 8 = .ok (.if_icmp .ne 47, 3) := by decide +kernel
theorem d_M_keepStood_11 : decode b_M_keepStood 11 = .ok (.iconst 0, 1) := by decide +kernel
theorem d_M_keepStood_12 : decode b_M_keepStood 12 = .ok (.istore_n 1, 1) := by decide +kernel
theorem d_M_keepStood_13 : decode b_M_keepStood 13 = .ok (.iload_n 1, 1) := by decide +kernel
theorem d_M_keepStood_14 : decode b_M_keepStood 14 = .ok (.bipush 9, 2) := by decide +kernel
theorem d_M_keepStood_16 : decode b_M_keepStood 16 = .ok (.if_icmp .ge 29, 3) := by decide +kernel
theorem d_M_keepStood_19 : decode b_M_keepStood 19 = .ok (.aload_n 0, 1) := by decide +kernel
theorem d_M_keepStood_20 : decode b_M_keepStood 20 = .ok (.getfield 21, 3) := by decide +kernel
theorem d_M_keepStood_23 : decode b_M_keepStood 23 = .ok (.bipush 37, 2) := by decide +kernel
theorem d_M_keepStood_25 : decode b_M_keepStood 25 = .ok (.iload_n 1, 1) := by decide +kernel
theorem d_M_keepStood_26 : decode b_M_keepStood 26 = .ok (.iadd, 1) := by decide +kernel
theorem d_M_keepStood_27 : decode b_M_keepStood 27 = .ok (.aload_n 0, 1) := by decide +kernel
theorem d_M_keepStood_28 : decode b_M_keepStood 28 = .ok (.getfield 21, 3) := by decide +kernel
theorem d_M_keepStood_31 : decode b_M_keepStood 31 = .ok (.bipush 37, 2) := by decide +kernel
theorem d_M_keepStood_33 : decode b_M_keepStood 33 = .ok (.iload_n 1, 1) := by decide +kernel
theorem d_M_keepStood_34 : decode b_M_keepStood 34 = .ok (.iadd, 1) := by decide +kernel
theorem d_M_keepStood_35 : decode b_M_keepStood 35 = .ok (.iconst 1, 1) := by decide +kernel
theorem d_M_keepStood_36 : decode b_M_keepStood 36 = .ok (.iadd, 1) := by decide +kernel
theorem d_M_keepStood_37 : decode b_M_keepStood 37 = .ok (.iaload, 1) := by decide +kernel
theorem d_M_keepStood_38 : decode b_M_keepStood 38 = .ok (.iastore, 1) := by decide +kernel
theorem d_M_keepStood_39 : decode b_M_keepStood 39 = .ok (.iinc 1 1, 3) := by decide +kernel
theorem d_M_keepStood_42 : decode b_M_keepStood 42 = .ok (.goto (-29), 3) := by decide +kernel
theorem d_M_keepStood_45 : decode b_M_keepStood 45 = .ok (.aload_n 0, 1) := by decide +kernel
theorem d_M_keepStood_46 : decode b_M_keepStood 46 = .ok (.getfield 21, 3) := by decide +kernel
theorem d_M_keepStood_49 : decode b_M_keepStood 49 = .ok (.iconst 4, 1) := by decide +kernel
theorem d_M_keepStood_50 : decode b_M_keepStood 50 = .ok (.dup2, 1) := by decide +kernel
theorem d_M_keepStood_51 : decode b_M_keepStood 51 = .ok (.iaload, 1) := by decide +kernel
theorem d_M_keepStood_52 : decode b_M_keepStood 52 = .ok (.iconst 1, 1) := by decide +kernel
theorem d_M_keepStood_53 : decode b_M_keepStood 53 = .ok (.isub, 1) := by decide +kernel
theorem d_M_keepStood_54 : decode b_M_keepStood 54 = .ok (.iastore, 1) := by decide +kernel
theorem d_M_keepStood_55 : decode b_M_keepStood 55 = .ok (.aload_n 0, 1) := by decide +kernel
theorem d_M_keepStood_56 : decode b_M_keepStood 56 = .ok (.getfield 21, 3) := by decide +kernel
theorem d_M_keepStood_59 : decode b_M_keepStood 59 = .ok (.bipush 37, 2) := by decide +kernel
theorem d_M_keepStood_61 : decode b_M_keepStood 61 = .ok (.aload_n 0, 1) := by decide +kernel
theorem d_M_keepStood_62 : decode b_M_keepStood 62 = .ok (.getfield 21, 3) := by decide +kernel
theorem d_M_keepStood_65 : decode b_M_keepStood 65 = .ok (.iconst 4, 1) := by decide +kernel
theorem d_M_keepStood_66 : decode b_M_keepStood 66 = .ok (.iaload, 1) := by decide +kernel
theorem d_M_keepStood_67 : decode b_M_keepStood 67 = .ok (.iadd, 1) := by decide +kernel
theorem d_M_keepStood_68 : decode b_M_keepStood 68 = .ok (.aload_n 0, 1) := by decide +kernel
theorem d_M_keepStood_69 : decode b_M_keepStood 69 = .ok (.getfield 21, 3) := by decide +kernel
theorem d_M_keepStood_72 : decode b_M_keepStood 72 = .ok (.iconst 1, 1) := by decide +kernel
theorem d_M_keepStood_73 : decode b_M_keepStood 73 = .ok (.iaload, 1) := by decide +kernel
theorem d_M_keepStood_74 : decode b_M_keepStood 74 = .ok (.iastore, 1) := by decide +kernel
theorem d_M_keepStood_75 : decode b_M_keepStood 75 = .ok (.aload_n 0, 1) := by decide +kernel
theorem d_M_keepStood_76 : decode b_M_keepStood 76 = .ok (.getfield 21, 3) := by decide +kernel
theorem d_M_keepStood_79 : decode b_M_keepStood 79 = .ok (.iconst 4, 1) := by decide +kernel
theorem d_M_keepStood_80 : decode b_M_keepStood 80 = .ok (.dup2, 1) := by decide +kernel
theorem d_M_keepStood_81 : decode b_M_keepStood 81 = .ok (.iaload, 1) := by decide +kernel
theorem d_M_keepStood_82 : decode b_M_keepStood 82 = .ok (.iconst 1, 1) := by decide +kernel
theorem d_M_keepStood_83 : decode b_M_keepStood 83 = .ok (.iadd, 1) := by decide +kernel
theorem d_M_keepStood_84 : decode b_M_keepStood 84 = .ok (.iastore, 1) := by decide +kernel
theorem d_M_keepStood_85 : decode b_M_keepStood 85 = .ok (.return_, 1) := by decide +kernel
theorem d_M_gust_0 : decode b_M_gust 0 = .ok (.aload_n 0, 1) := by decide +kernel
theorem d_M_gust_1 : decode b_M_gust 1 = .ok (.iconst 0, 1) := by decide +kernel
theorem d_M_gust_2 : decode b_M_gust 2 = .ok (.putfield 1, 3) := by decide +kernel
theorem d_M_gust_5 : decode b_M_gust 5 = .ok (.iload_n 1, 1) := by decide +kernel
theorem d_M_gust_6 : decode b_M_gust 6 = .ok (.iload_n 2, 1) := by decide +kernel
theorem d_M_gust_7 : decode b_M_gust 7 = .ok (.invokestatic 205, 3) := by decide +kernel
theorem d_M_gust_10 : decode b_M_gust 10 = .ok (.ifCond .eq 8, 3) := by decide +kernel
theorem d_M_gust_13 : decode b_M_gust 13 = .ok (.aload_n 0, 1) := by decide +kernel
theorem d_M_gust_14 : decode b_M_gust 14 = .ok (.invokevirtual 77, 3) := by decide +kernel
theorem d_M_gust_17 : decode b_M_gust 17 = .ok (.ireturn, 1) := by decide +kernel
theorem d_M_gust_18 : decode b_M_gust 18 = .ok (.aload_n 0, 1) := by decide +kernel
theorem d_M_gust_19 : decode b_M_gust 19 = .ok (.invokevirtual 208, 3) := by decide +kernel
theorem d_M_gust_22 : decode b_M_gust 22 = .ok (.ifCond .eq 8, 3) := by decide +kernel
theorem d_M_gust_25 : decode b_M_gust 25 = .ok (.aload_n 0, 1) := by decide +kernel
theorem d_M_gust_26 : decode b_M_gust 26 = .ok (.invokevirtual 100, 3) := by decide +kernel
theorem d_M_gust_29 : decode b_M_gust 29 = .ok (.ireturn, 1) := by decide +kernel
theorem d_M_gust_30 : decode b_M_gust 30 = .ok (.aload_n 0, 1) := by decide +kernel
theorem d_M_gust_31 : decode b_M_gust 31 = .ok (.invokevirtual 211, 3) := by decide +kernel
theorem d_M_gust_34 : decode b_M_gust 34 = .ok (.aload_n 0, 1) := by decide +kernel
theorem d_M_gust_35 : decode b_M_gust 35 = .ok (.getfield 21, 3) := by decide +kernel
theorem d_M_gust_38 : decode b_M_gust 38 = .ok (.iconst 1, 1) := by decide +kernel
theorem d_M_gust_39 : decode b_M_gust 39 = .ok (.aload_n 0, 1) := by decide +kernel
theorem d_M_gust_40 : decode b_M_gust 40 = .ok (.aload_n 0, 1) := by decide +kernel
theorem d_M_gust_41 : decode b_M_gust 41 = .ok (.getfield 21, 3) := by decide +kernel
theorem d_M_gust_44 : decode b_M_gust 44 = .ok (.iconst 1, 1) := by decide +kernel
theorem d_M_gust_45 : decode b_M_gust 45 = .ok (.iaload, 1) := by decide +kernel
theorem d_M_gust_46 : decode b_M_gust 46 = .ok (.iload_n 1, 1) := by decide +kernel
theorem d_M_gust_47 : decode b_M_gust 47 = .ok (.iload_n 2, 1) := by decide +kernel
theorem d_M_gust_48 : decode b_M_gust 48 = .ok (.invokevirtual 214, 3) := by decide +kernel
theorem d_M_gust_51 : decode b_M_gust 51 = .ok (.iastore, 1) := by decide +kernel
theorem d_M_gust_52 : decode b_M_gust 52 = .ok (.aload_n 0, 1) := by decide +kernel
theorem d_M_gust_53 : decode b_M_gust 53 = .ok (.getfield 196, 3) := by decide +kernel
theorem d_M_gust_56 : decode b_M_gust 56 = .ok (.ireturn, 1) := by decide +kernel
theorem d_M_stand_0 : decode b_M_stand 0 = .ok (.aload_n 0, 1) := by decide +kernel
theorem d_M_stand_1 : decode b_M_stand 1 = .ok (.iconst 0, 1) := by decide +kernel
theorem d_M_stand_2 : decode b_M_stand 2 = .ok (.putfield 1, 3) := by decide +kernel
theorem d_M_stand_5 : decode b_M_stand 5 = .ok (.aload_n 0, 1) := by decide +kernel
theorem d_M_stand_6 : decode b_M_stand 6 = .ok (.iload_n 1, 1) := by decide +kernel
theorem d_M_stand_7 : decode b_M_stand 7 = .ok (.invokevirtual 81, 3) := by decide +kernel
theorem d_M_stand_10 : decode b_M_stand 10 = .ok (.ifCond .eq 8, 3) := by decide +kernel
theorem d_M_stand_13 : decode b_M_stand 13 = .ok (.aload_n 0, 1) := by decide +kernel
theorem d_M_stand_14 : decode b_M_stand 14 = .ok (.invokevirtual 77, 3) := by decide +kernel
theorem d_M_stand_17 : decode b_M_stand 17 = .ok (.ireturn, 1) := by decide +kernel
theorem d_M_stand_18 : decode b_M_stand 18 = .ok (.aload_n 0, 1) := by decide +kernel
theorem d_M_stand_19 : decode b_M_stand 19 = .ok (.getfield 21, 3) := by decide +kernel
theorem d_M_stand_22 : decode b_M_stand 22 = .ok (.iconst 1, 1) := by decide +kernel
theorem d_M_stand_23 : decode b_M_stand 23 = .ok (.iaload, 1) := by decide +kernel
theorem d_M_stand_24 : decode b_M_stand 24 = .ok (.iload_n 1, 1) := by decide +kernel
theorem d_M_stand_25 : decode b_M_stand 25 = .ok (.invokestatic 96, 3) := by decide +kernel
theorem d_M_stand_28 : decode b_M_stand 28 = .ok (.iload_n 2, 1) := by decide +kernel
theorem d_M_stand_29 : decode b_M_stand 29 = .ok (.if_icmp .ne 8, 3) := by decide +kernel
theorem d_M_stand_32 : decode b_M_stand 32 = .ok (.aload_n 0, 1) := by decide +kernel
theorem d_M_stand_33 : decode b_M_stand 33 = .ok (.invokevirtual 100, 3) := by decide +kernel
theorem d_M_stand_36 : decode b_M_stand 36 = .ok (.ireturn, 1) := by decide +kernel
theorem d_M_stand_37 : decode b_M_stand 37 = .ok (.aload_n 0, 1) := by decide +kernel
theorem d_M_stand_38 : decode b_M_stand 38 = .ok (.invokevirtual 211, 3) := by decide +kernel
theorem d_M_stand_41 : decode b_M_stand 41 = .ok (.aload_n 0, 1) := by decide +kernel
theorem d_M_stand_42 : decode b_M_stand 42 = .ok (.getfield 21, 3) := by decide +kernel
theorem d_M_stand_45 : decode b_M_stand 45 = .ok (.iconst 1, 1) := by decide +kernel
theorem d_M_stand_46 : decode b_M_stand 46 = .ok (.dup2, 1) := by decide +kernel
theorem d_M_stand_47 : decode b_M_stand 47 = .ok (.iaload, 1) := by decide +kernel
theorem d_M_stand_48 : decode b_M_stand 48 = .ok (.iconst 1, 1) := by decide +kernel
theorem d_M_stand_49 : decode b_M_stand 49 = .ok (.iload_n 1, 1) := by decide +kernel
theorem d_M_stand_50 : decode b_M_stand 50 = .ok (.ishl, 1) := by decide +kernel
theorem d_M_stand_51 : decode b_M_stand 51 = .ok (.ixor, 1) := by decide +kernel
theorem d_M_stand_52 : decode b_M_stand 52 = .ok (.iastore, 1) := by decide +kernel
theorem d_M_stand_53 : decode b_M_stand 53 = .ok (.iconst 1, 1) := by decide +kernel
theorem d_M_stand_54 : decode b_M_stand 54 = .ok (.ireturn, 1) := by decide +kernel
theorem d_M_undo_0 : decode b_M_undo 0 = .ok (.aload_n 0, 1) := by decide +kernel
theorem d_M_undo_1 : decode b_M_undo 1 = .ok (.iconst 0, 1) := by decide +kernel
theorem d_M_undo_2 : decode b_M_undo 2 = .ok (.putfield 1, 3) := by decide +kernel
theorem d_M_undo_5 : decode b_M_undo 5 = .ok (.aload_n 0, 1) := by decide +kernel
theorem d_M_undo_6 : decode b_M_undo 6 = .ok (.getfield 21, 3) := by decide +kernel
theorem d_M_undo_9 : decode b_M_undo 9 = .ok (.iconst 4, 1) := by decide +kernel
theorem d_M_undo_10 : decode b_M_undo 10 = .ok (.iaload, 1) := by decide +kernel
theorem d_M_undo_11 : decode b_M_undo 11 = .ok (.ifCond .ne 8, 3) := by decide +kernel
theorem d_M_undo_14 : decode b_M_undo 14 = .ok (.aload_n 0, 1) := by decide +kernel
theorem d_M_undo_15 : decode b_M_undo 15 = .ok (.invokevirtual 100, 3) := by decide +kernel
theorem d_M_undo_18 : decode b_M_undo 18 = .ok (.ireturn, 1) := by decide +kernel
theorem d_M_undo_19 : decode b_M_undo 19 = .ok (.aload_n 0, 1) := by decide +kernel
theorem d_M_undo_20 : decode b_M_undo 20 = .ok (.getfield 21, 3) := by decide +kernel
theorem d_M_undo_23 : decode b_M_undo 23 = .ok (.iconst 4, 1) := by decide +kernel
theorem d_M_undo_24 : decode b_M_undo 24 = .ok (.dup2, 1) := by decide +kernel
theorem d_M_undo_25 : decode b_M_undo 25 = .ok (.iaload, 1) := by decide +kernel
theorem d_M_undo_26 : decode b_M_undo 26 = .ok (.iconst 1, 1) := by decide +kernel
theorem d_M_undo_27 : decode b_M_undo 27 = .ok (.isub, 1) := by decide +kernel
theorem d_M_undo_28 : decode b_M_undo 28 = .ok (.iastore, 1) := by decide +kernel
theorem d_M_undo_29 : decode b_M_undo 29 = .ok (.aload_n 0, 1) := by decide +kernel
theorem d_M_undo_30 : decode b_M_undo 30 = .ok (.getfield 21, 3) := by decide +kernel
theorem d_M_undo_33 : decode b_M_undo 33 = .ok (.iconst 1, 1) := by decide +kernel
theorem d_M_undo_34 : decode b_M_undo 34 = .ok (.aload_n 0, 1) := by decide +kernel
theorem d_M_undo_35 : decode b_M_undo 35 = .ok (.getfield 21, 3) := by decide +kernel
theorem d_M_undo_38 : decode b_M_undo 38 = .ok (.bipush 37, 2) := by decide +kernel
theorem d_M_undo_40 : decode b_M_undo 40 = .ok (.aload_n 0, 1) := by decide +kernel
theorem d_M_undo_41 : decode b_M_undo 41 = .ok (.getfield 21, 3) := by decide +kernel
theorem d_M_undo_44 : decode b_M_undo 44 = .ok (.iconst 4, 1) := by decide +kernel
theorem d_M_undo_45 : decode b_M_undo 45 = .ok (.iaload, 1) := by decide +kernel
theorem d_M_undo_46 : decode b_M_undo 46 = .ok (.iadd, 1) := by decide +kernel
theorem d_M_undo_47 : decode b_M_undo 47 = .ok (.iaload, 1) := by decide +kernel
theorem d_M_undo_48 : decode b_M_undo 48 = .ok (.iastore, 1) := by decide +kernel
theorem d_M_undo_49 : decode b_M_undo 49 = .ok (.iconst 1, 1) := by decide +kernel
theorem d_M_undo_50 : decode b_M_undo 50 = .ok (.ireturn, 1) := by decide +kernel
theorem d_M_of_0 : decode b_M_of 0 = .ok (.aload_n 0, 1) := by decide +kernel
theorem d_M_of_1 : decode b_M_of 1 = .ok (.iconst 0, 1) := by decide +kernel
theorem d_M_of_2 : decode b_M_of 2 = .ok (.putfield 1, 3) := by decide +kernel
theorem d_M_of_5 : decode b_M_of 5 = .ok (.aload_n 0, 1) := by decide +kernel
theorem d_M_of_6 : decode b_M_of 6 = .ok (.iload_n 1, 1) := by decide +kernel
theorem d_M_of_7 : decode b_M_of 7 = .ok (.invokevirtual 81, 3) := by decide +kernel
theorem d_M_of_10 : decode b_M_of 10 = .ok (.ifCond .ne 15, 3) := by decide +kernel
theorem d_M_of_13 : decode b_M_of 13 = .ok (.iload_n 2, 1) := by decide +kernel
theorem d_M_of_14 : decode b_M_of 14 = .ok (.i2l, 1) := by decide +kernel
theorem d_M_of_15 : decode b_M_of 15 = .ok (.lconst 0, 1) := by decide +kernel
theorem d_M_of_16 : decode b_M_of 16 = .ok (.ldc2_w 84, 3) := by decide +kernel
theorem d_M_of_19 : decode b_M_of 19 = .ok (.invokestatic 57, 3) := by decide +kernel
theorem d_M_of_22 : decode b_M_of 22 = .ok (.ifCond .ne 8, 3) := by decide +kernel
theorem d_M_of_25 : decode b_M_of 25 = .ok (.aload_n 0, 1) := by decide +kernel
theorem d_M_of_26 : decode b_M_of 26 = .ok (.invokevirtual 77, 3) := by decide +kernel
theorem d_M_of_29 : decode b_M_of 29 = .ok (.ireturn, 1) := by decide +kernel
theorem d_M_of_30 : decode b_M_of 30 = .ok (.iload_n 2, 1) := by decide +kernel
theorem d_M_of_31 : decode b_M_of 31 = .ok (.tableswitch 85 0 4 #[33, 42, 52, 62, 74], 33) := by decide +kernel
theorem d_M_of_64 : decode b_M_of 64 = .ok (.aload_n 0, 1) := by decide +kernel
theorem d_M_of_65 : decode b_M_of 65 = .ok (.getfield 21, 3) := by decide +kernel
theorem d_M_of_68 : decode b_M_of 68 = .ok (.iconst 5, 1) := by decide +kernel
theorem d_M_of_69 : decode b_M_of 69 = .ok (.iload_n 1, 1) := by decide +kernel
theorem d_M_of_70 : decode b_M_of 70 = .ok (.iadd, 1) := by decide +kernel
theorem d_M_of_71 : decode b_M_of 71 = .ok (.iaload, 1) := by decide +kernel
theorem d_M_of_72 : decode b_M_of 72 = .ok (.ireturn, 1) := by decide +kernel
theorem d_M_of_73 : decode b_M_of 73 = .ok (.aload_n 0, 1) := by decide +kernel
theorem d_M_of_74 : decode b_M_of 74 = .ok (.getfield 21, 3) := by decide +kernel
theorem d_M_of_77 : decode b_M_of 77 = .ok (.bipush 13, 2) := by decide +kernel
theorem d_M_of_79 : decode b_M_of 79 = .ok (.iload_n 1, 1) := by decide +kernel
theorem d_M_of_80 : decode b_M_of 80 = .ok (.iadd, 1) := by decide +kernel
theorem d_M_of_81 : decode b_M_of 81 = .ok (.iaload, 1) := by decide +kernel
theorem d_M_of_82 : decode b_M_of 82 = .ok (.ireturn, 1) := by decide +kernel
theorem d_M_of_83 : decode b_M_of 83 = .ok (.aload_n 0, 1) := by decide +kernel
theorem d_M_of_84 : decode b_M_of 84 = .ok (.getfield 21, 3) := by decide +kernel
theorem d_M_of_87 : decode b_M_of 87 = .ok (.bipush 21, 2) := by decide +kernel
theorem d_M_of_89 : decode b_M_of 89 = .ok (.iload_n 1, 1) := by decide +kernel
theorem d_M_of_90 : decode b_M_of 90 = .ok (.iadd, 1) := by decide +kernel
theorem d_M_of_91 : decode b_M_of 91 = .ok (.iaload, 1) := by decide +kernel
theorem d_M_of_92 : decode b_M_of 92 = .ok (.ireturn, 1) := by decide +kernel
theorem d_M_of_93 : decode b_M_of 93 = .ok (.aload_n 0, 1) := by decide +kernel
theorem d_M_of_94 : decode b_M_of 94 = .ok (.iload_n 1, 1) := by decide +kernel
theorem d_M_of_95 : decode b_M_of 95 = .ok (.aload_n 0, 1) := by decide +kernel
theorem d_M_of_96 : decode b_M_of 96 = .ok (.getfield 21, 3) := by decide +kernel
theorem d_M_of_99 : decode b_M_of 99 = .ok (.iconst 1, 1) := by decide +kernel
theorem d_M_of_100 : decode b_M_of 100 = .ok (.iaload, 1) := by decide +kernel
theorem d_M_of_101 : decode b_M_of 101 = .ok (.invokevirtual 189, 3) := by decide +kernel
theorem d_M_of_104 : decode b_M_of 104 = .ok (.ireturn, 1) := by decide +kernel
theorem d_M_of_105 : decode b_M_of 105 = .ok (.aload_n 0, 1) := by decide +kernel
theorem d_M_of_106 : decode b_M_of 106 = .ok (.getfield 21, 3) := by decide +kernel
theorem d_M_of_109 : decode b_M_of 109 = .ok (.iconst 1, 1) := by decide +kernel
theorem d_M_of_110 : decode b_M_of 110 = .ok (.iaload, 1) := by decide +kernel
theorem d_M_of_111 : decode b_M_of 111 = .ok (.iload_n 1, 1) := by decide +kernel
theorem d_M_of_112 : decode b_M_of 112 = .ok (.ishr, 1) := by decide +kernel
theorem d_M_of_113 : decode b_M_of 113 = .ok (.iconst 1, 1) := by decide +kernel
theorem d_M_of_114 : decode b_M_of 114 = .ok (.iand, 1) := by decide +kernel
theorem d_M_of_115 : decode b_M_of 115 = .ok (.ireturn, 1) := by decide +kernel
theorem d_M_of_116 : decode b_M_of 116 = .ok (.aload_n 0, 1) := by decide +kernel
theorem d_M_of_117 : decode b_M_of 117 = .ok (.iload_n 1, 1) := by decide +kernel
theorem d_M_of_118 : decode b_M_of 118 = .ok (.invokevirtual 178, 3) := by decide +kernel
theorem d_M_of_121 : decode b_M_of 121 = .ok (.ireturn, 1) := by decide +kernel
theorem d_M_pullNow_0 : decode b_M_pullNow 0 = .ok (.aload_n 0, 1) := by decide +kernel
theorem d_M_pullNow_1 : decode b_M_pullNow 1 = .ok (.getfield 21, 3) := by decide +kernel
theorem d_M_pullNow_4 : decode b_M_pullNow 4 = .ok (.iconst 1, 1) := by decide +kernel
theorem d_M_pullNow_5 : decode b_M_pullNow 5 = .ok (.iaload, 1) := by decide +kernel
theorem d_M_pullNow_6 : decode b_M_pullNow 6 = .ok (.iload_n 1, 1) := by decide +kernel
theorem d_M_pullNow_7 : decode b_M_pullNow 7 = .ok (.invokestatic 96, 3) := by decide +kernel
theorem d_M_pullNow_10 : decode b_M_pullNow 10 = .ok (.ifCond .eq 20, 3) := by decide +kernel
theorem d_M_pullNow_13 : decode b_M_pullNow 13 = .ok (.aload_n 0, 1) := by decide +kernel
theorem d_M_pullNow_14 : decode b_M_pullNow 14 = .ok (.iload_n 1, 1) := by decide +kernel
theorem d_M_pullNow_15 : decode b_M_pullNow 15 = .ok (.iload_n 2, 1) := by decide +kernel
theorem d_M_pullNow_16 : decode b_M_pullNow 16 = .ok (.iload_n 3, 1) := by decide +kernel
theorem d_M_pullNow_17 : decode b_M_pullNow 17 = .ok (.iconst 0, 1) := by decide +kernel
theorem d_M_pullNow_18 : decode b_M_pullNow 18 = .ok (.aload_n 0, 1) := by decide +kernel
theorem d_M_pullNow_19 : decode b_M_pullNow 19 = .ok (.getfield 21, 3) := by decide +kernel
theorem d_M_pullNow_22 : decode b_M_pullNow 22 = .ok (.iconst 3, 1) := by decide +kernel
theorem d_M_pullNow_23 : decode b_M_pullNow 23 = .ok (.iaload, 1) := by decide +kernel
theorem d_M_pullNow_24 : decode b_M_pullNow 24 = .ok (.invokevirtual 185, 3) := by decide +kernel
theorem d_M_pullNow_27 : decode b_M_pullNow 27 = .ok (.goto 4, 3) := by decide +kernel
theorem d_M_pullNow_30 : decode b_M_pullNow 30 = .ok (.iconst 0, 1) := by decide +kernel
theorem d_M_pullNow_31 : decode b_M_pullNow 31 = .ok (.ireturn, 1) := by decide +kernel
theorem d_M_pull_0 : decode b_M_pull 0 = .ok (.aload_n 0, 1) := by decide +kernel
theorem d_M_pull_1 : decode b_M_pull 1 = .ok (.iconst 0, 1) := by decide +kernel
theorem d_M_pull_2 : decode b_M_pull 2 = .ok (.putfield 1, 3) := by decide +kernel
theorem d_M_pull_5 : decode b_M_pull 5 = .ok (.aload_n 0, 1) := by decide +kernel
theorem d_M_pull_6 : decode b_M_pull 6 = .ok (.iload_n 1, 1) := by decide +kernel
theorem d_M_pull_7 : decode b_M_pull 7 = .ok (.invokevirtual 81, 3) := by decide +kernel
theorem d_M_pull_10 : decode b_M_pull 10 = .ok (.ifCond .ne 11, 3) := by decide +kernel
theorem d_M_pull_13 : decode b_M_pull 13 = .ok (.iload_n 2, 1) := by decide +kernel
theorem d_M_pull_14 : decode b_M_pull 14 = .ok (.iload_n 3, 1) := by decide +kernel
theorem d_M_pull_15 : decode b_M_pull 15 = .ok (.invokestatic 205, 3) := by decide +kernel
theorem d_M_pull_18 : decode b_M_pull 18 = .ok (.ifCond .eq 10, 3) := by decide +kernel
theorem d_M_pull_21 : decode b_M_pull 21 = .ok (.aload_n 0, 1) := by decide +kernel
theorem d_M_pull_22 : decode b_M_pull 22 = .ok (.invokevirtual 77, 3) := by decide +kernel
theorem d_M_pull_25 : decode b_M_pull 25 = .ok (.goto 10, 3) := by decide +kernel
theorem d_M_pull_28 : decode b_M_pull 28 = .ok (.aload_n 0, 1) := by decide +kernel
theorem d_M_pull_29 : decode b_M_pull 29 = .ok (.iload_n 1, 1) := by decide +kernel
theorem d_M_pull_30 : decode b_M_pull 30 = .ok (.iload_n 2, 1) := by decide +kernel
theorem d_M_pull_31 : decode b_M_pull 31 = .ok (.iload_n 3, 1) := by decide +kernel
theorem d_M_pull_32 : decode b_M_pull 32 = .ok (.invokevirtual 217, 3) := by decide +kernel
theorem d_M_pull_35 : decode b_M_pull 35 = .ok (.ireturn, 1) := by decide +kernel
theorem d_M_first_0 : decode b_M_first 0 = .ok (.aload_n 0, 1) := by decide +kernel
theorem d_M_first_1 : decode b_M_first 1 = .ok (.iconst 0, 1) := by decide +kernel
theorem d_M_first_2 : decode b_M_first 2 = .ok (.putfield 1, 3) := by decide +kernel
theorem d_M_first_5 : decode b_M_first 5 = .ok (.iload_n 1, 1) := by decide +kernel
theorem d_M_first_6 : decode b_M_first 6 = .ok (.iload_n 2, 1) := by decide +kernel
theorem d_M_first_7 : decode b_M_first 7 = .ok (.invokestatic 205, 3) := by decide +kernel
theorem d_M_first_10 : decode b_M_first 10 = .ok (.ifCond .ne 8, 3) := by decide +kernel
theorem d_M_first_13 : decode b_M_first 13 = .ok (.iload_n 3, 1) := by decide +kernel
theorem d_M_first_14 : decode b_M_first 14 = .ok (.iconst (-1), 1) := by decide +kernel
theorem d_M_first_15 : decode b_M_first 15 = .ok (.if_icmp .ge 8, 3) := by decide +kernel
theorem d_M_first_18 : decode b_M_first 18 = .ok (.aload_n 0, 1) := by decide +kernel
theorem d_M_first_19 : decode b_M_first 19 = .ok (.invokevirtual 220, 3) := by decide +kernel
theorem d_M_first_22 : decode b_M_first 22 = .ok (.ireturn, 1) := by decide +kernel
theorem d_M_first_23 : decode b_M_first 23 = .ok (.aload_n 0, 1) := by decide +kernel
theorem d_M_first_24 : decode b_M_first 24 = .ok (.aload_n 0, 1) := by decide +kernel
theorem d_M_first_25 : decode b_M_first 25 = .ok (.getfield 21, 3) := by decide +kernel
theorem d_M_first_28 : decode b_M_first 28 = .ok (.iconst 1, 1) := by decide +kernel
theorem d_M_first_29 : decode b_M_first 29 = .ok (.iaload, 1) := by decide +kernel
theorem d_M_first_30 : decode b_M_first 30 = .ok (.iload_n 1, 1) := by decide +kernel
theorem d_M_first_31 : decode b_M_first 31 = .ok (.iload_n 2, 1) := by decide +kernel
theorem d_M_first_32 : decode b_M_first 32 = .ok (.invokevirtual 214, 3) := by decide +kernel
theorem d_M_first_35 : decode b_M_first 35 = .ok (.istore 4, 2) := by decide +kernel
theorem d_M_first_37 : decode b_M_first 37 = .ok (.iload_n 3, 1) := by decide +kernel
theorem d_M_first_38 : decode b_M_first 38 = .ok (.iconst (-1), 1) := by decide +kernel
theorem d_M_first_39 : decode b_M_first 39 = .ok (.if_icmp .ne 10, 3) := by decide +kernel
theorem d_M_first_42 : decode b_M_first 42 = .ok (.aload_n 0, 1) := by decide +kernel
theorem d_M_first_43 : decode b_M_first 43 = .ok (.getfield 196, 3) := by decide +kernel
theorem d_M_first_46 : decode b_M_first 46 = .ok (.goto 32, 3) := by decide +kernel
theorem d_M_first_49 : decode b_M_first 49 = .ok (.iload_n 3, 1) := by decide +kernel
theorem d_M_first_50 : decode b_M_first 50 = .ok (.aload_n 0, 1) := by decide +kernel
theorem d_M_first_51 : decode b_M_first 51 = .ok (.getfield 196, 3) := by decide +kernel
theorem d_M_first_54 : decode b_M_first 54 = .ok (.if_icmp .ge 12, 3) := by decide +kernel
theorem d_M_first_57 : decode b_M_first 57 = .ok (.aload_n 0, 1) := by decide +kernel
theorem d_M_first_58 : decode b_M_first 58 = .ok (.getfield 43, 3) := by decide +kernel
theorem d_M_first_61 : decode b_M_first 61 = .ok (.iload_n 3, 1) := by decide +kernel
theorem d_M_first_62 : decode b_M_first 62 = .ok (.iaload, 1) := by decide +kernel
theorem d_M_first_63 : decode b_M_first 63 = .ok (.goto 15, 3) := by decide +kernel
theorem d_M_first_66 : decode b_M_first 66 = .ok (.iload 4, 2) := by decide +kernel
theorem d_M_first_68 : decode b_M_first 68 = .ok (.ifCond .ge 8, 3) := by decide +kernel
theorem d_M_first_71 : decode b_M_first 71 = .ok (.iload 4, 2) := by decide +kernel
theorem d_M_first_73 : decode b_M_first 73 = .ok (.goto 5, 3) := by decide +kernel
theorem d_M_first_76 : decode b_M_first 76 = .ok (.bipush (-5), 2) := by decide +kernel
theorem d_M_first_78 : decode b_M_first 78 = .ok (.ireturn, 1) := by decide +kernel
theorem d_M_lost_0 : decode b_M_lost 0 = .ok (.aload_n 0, 1) := by decide +kernel
theorem d_M_lost_1 : decode b_M_lost 1 = .ok (.iconst 0, 1) := by decide +kernel
theorem d_M_lost_2 : decode b_M_lost 2 = .ok (.putfield 1, 3) := by decide +kernel
theorem d_M_lost_5 : decode b_M_lost 5 = .ok (.aload_n 0, 1) := by decide +kernel
theorem d_M_lost_6 : decode b_M_lost 6 = .ok (.iload_n 1, 1) := by decide +kernel
theorem d_M_lost_7 : decode b_M_lost 7 = .ok (.invokevirtual 81, 3) := by decide +kernel
theorem d_M_lost_10 : decode b_M_lost 10 = .ok (.ifCond .ne 11, 3) := by decide +kernel
theorem d_M_lost_13 : decode b_M_lost 13 = .ok (.iload_n 2, 1) := by decide +kernel
theorem d_M_lost_14 : decode b_M_lost 14 = .ok (.iload_n 3, 1) := by decide +kernel
theorem d_M_lost_15 : decode b_M_lost 15 = .ok (.invokestatic 205, 3) := by decide +kernel
theorem d_M_lost_18 : decode b_M_lost 18 = .ok (.ifCond .eq 8, 3) := by decide +kernel
theorem d_M_lost_21 : decode b_M_lost 21 = .ok (.aload_n 0, 1) := by decide +kernel
theorem d_M_lost_22 : decode b_M_lost 22 = .ok (.invokevirtual 77, 3) := by decide +kernel
theorem d_M_lost_25 : decode b_M_lost 25 = .ok (.ireturn, 1) := by decide +kernel
theorem d_M_lost_26 : decode b_M_lost 26 = .ok (.aload_n 0, 1) := by decide +kernel
theorem d_M_lost_27 : decode b_M_lost 27 = .ok (.aload_n 0, 1) := by decide +kernel
theorem d_M_lost_28 : decode b_M_lost 28 = .ok (.getfield 21, 3) := by decide +kernel
theorem d_M_lost_31 : decode b_M_lost 31 = .ok (.iconst 1, 1) := by decide +kernel
theorem d_M_lost_32 : decode b_M_lost 32 = .ok (.iaload, 1) := by decide +kernel
theorem d_M_lost_33 : decode b_M_lost 33 = .ok (.iconst 1, 1) := by decide +kernel
theorem d_M_lost_34 : decode b_M_lost 34 = .ok (.iload_n 1, 1) := by decide +kernel
theorem d_M_lost_35 : decode b_M_lost 35 = .ok (.ishl, 1) := by decide +kernel
theorem d_M_lost_36 : decode b_M_lost 36 = .ok (.iconst (-1), 1) := by decide +kernel
theorem d_M_lost_37 : decode b_M_lost 37 = .ok (.ixor, 1) := by decide +kernel
theorem d_M_lost_38 : decode b_M_lost 38 = .ok (.iand, 1) := by decide +kernel
theorem d_M_lost_39 : decode b_M_lost 39 = .ok (.iload_n 2, 1) := by decide +kernel
theorem d_M_lost_40 : decode b_M_lost 40 = .ok (.iload_n 3, 1) := by decide +kernel
theorem d_M_lost_41 : decode b_M_lost 41 = .ok (.invokevirtual 214, 3) := by decide +kernel
theorem d_M_lost_44 : decode b_M_lost 44 = .ok (.ifCond .ne 7, 3) := by decide +kernel
theorem d_M_lost_47 : decode b_M_lost 47 = .ok (.iconst 1, 1) := by decide +kernel
theorem d_M_lost_48 : decode b_M_lost 48 = .ok (.goto 4, 3) := by decide +kernel
theorem d_M_lost_51 : decode b_M_lost 51 = .ok (.iconst 0, 1) := by decide +kernel
theorem d_M_lost_52 : decode b_M_lost 52 = .ok (.ireturn, 1) := by decide +kernel
theorem d_M_bearsBy_0 : decode b_M_bearsBy 0 = .ok (.iconst 0, 1) := by decide +kernel
theorem d_M_bearsBy_1 : decode b_M_bearsBy 1 = .ok (.istore_n 2, 1) := by decide +kernel
theorem d_M_bearsBy_2 : decode b_M_bearsBy 2 = .ok (.iload_n 2, 1) := by decide +kernel
theorem d_M_bearsBy_3 : decode b_M_bearsBy 3 = .ok (.bipush 60, 2) := by decide +kernel
theorem d_M_bearsBy_5 : decode b_M_bearsBy 5 = .ok (.if_icmp .ge 20, 3) := by decide +kernel
theorem d_M_bearsBy_8 : decode b_M_bearsBy 8 = .ok (.aload_n 0, 1) := by decide +kernel
theorem d_M_bearsBy_9 : decode b_M_bearsBy 9 = .ok (.iload_n 1, 1) := by decide +kernel
theorem d_M_bearsBy_10 : decode b_M_bearsBy 10 = .ok (.iload_n 2, 1) := by decide +kernel
theorem d_M_bearsBy_11 : decode b_M_bearsBy 11 = .ok (.iconst 1, 1) := by decide +kernel
theorem d_M_bearsBy_12 : decode b_M_bearsBy 12 = .ok (.iadd, 1) := by decide +kernel
theorem d_M_bearsBy_13 : decode b_M_bearsBy 13 = .ok (.invokevirtual 223, 3) := by decide +kernel
theorem d_M_bearsBy_16 : decode b_M_bearsBy 16 = .ok (.ifCond .eq 9, 3) := by decide +kernel
theorem d_M_bearsBy_19 : decode b_M_bearsBy 19 = .ok (.iinc 2 1, 3) := by decide +kernel
theorem d_M_bearsBy_22 : decode b_M_bearsBy 22 = .ok (.goto (-20), 3) := by decide +kernel
theorem d_M_bearsBy_25 : decode b_M_bearsBy 25 = .ok (.iload_n 2, 1) := by decide +kernel
theorem d_M_bearsBy_26 : decode b_M_bearsBy 26 = .ok (.ireturn, 1) := by decide +kernel
theorem d_M_leastWay_0 : decode b_M_leastWay 0 = .ok (.iconst 0, 1) := by decide +kernel
theorem d_M_leastWay_1 : decode b_M_leastWay 1 = .ok (.istore_n 1, 1) := by decide +kernel
theorem d_M_leastWay_2 : decode b_M_leastWay 2 = .ok (.iconst 1, 1) := by decide +kernel
theorem d_M_leastWay_3 : decode b_M_leastWay 3 = .ok (.istore_n 2, 1) := by decide +kernel
theorem d_M_leastWay_4 : decode b_M_leastWay 4 = .ok (.iload_n 2, 1) := by decide +kernel
theorem d_M_leastWay_5 : decode b_M_leastWay 5 = .ok (.bipush 8, 2) := by decide +kernel
theorem d_M_leastWay_7 : decode b_M_leastWay 7 = .ok (.if_icmp .ge 28, 3) := by decide +kernel
theorem d_M_leastWay_10 : decode b_M_leastWay 10 = .ok (.aload_n 0, 1) := by decide +kernel
theorem d_M_leastWay_11 : decode b_M_leastWay 11 = .ok (.iload_n 2, 1) := by decide +kernel
theorem d_M_leastWay_12 : decode b_M_leastWay 12 = .ok (.invokevirtual 226, 3) := by decide +kernel
theorem d_M_leastWay_15 : decode b_M_leastWay 15 = .ok (.aload_n 0, 1) := by decide +kernel
theorem d_M_leastWay_16 : decode b_M_leastWay 16 = .ok (.iload_n 1, 1) := by decide +kernel
theorem d_M_leastWay_17 : decode b_M_leastWay 17 = .ok (.invokevirtual 226, 3) := by decide +kernel
theorem d_M_leastWay_20 : decode b_M_leastWay 20 = .ok (.if_icmp .ge 7, 3) := by decide +kernel
theorem d_M_leastWay_23 : decode b_M_leastWay 23 = .ok (.iload_n 2, 1) := by decide +kernel
theorem d_M_leastWay_24 : decode b_M_leastWay 24 = .ok (.goto 4, 3) := by decide +kernel
theorem d_M_leastWay_27 : decode b_M_leastWay 27 = .ok (.iload_n 1, 1) := by decide +kernel
theorem d_M_leastWay_28 : decode b_M_leastWay 28 = .ok (.istore_n 1, 1) := by decide +kernel
theorem d_M_leastWay_29 : decode b_M_leastWay 29 = .ok (.iinc 2 1, 3) := by decide +kernel
theorem d_M_leastWay_32 : decode b_M_leastWay 32 = .ok (.goto (-28), 3) := by decide +kernel
theorem d_M_leastWay_35 : decode b_M_leastWay 35 = .ok (.iload_n 1, 1) := by decide +kernel
theorem d_M_leastWay_36 : decode b_M_leastWay 36 = .ok (.ireturn, 1) := by decide +kernel
theorem d_M_bears_0 : decode b_M_bears 0 = .ok (.aload_n 0, 1) := by decide +kernel
theorem d_M_bears_1 : decode b_M_bears 1 = .ok (.iconst 0, 1) := by decide +kernel
theorem d_M_bears_2 : decode b_M_bears 2 = .ok (.putfield 1, 3) := by decide +kernel
theorem d_M_bears_5 : decode b_M_bears 5 = .ok (.iload_n 1, 1) := by decide +kernel
theorem d_M_bears_6 : decode b_M_bears 6 = .ok (.iconst (-1), 1) := by decide +kernel
theorem d_M_bears_7 : decode b_M_bears 7 = .ok (.if_icmp .eq 15, 3) := by decide +kernel
theorem d_M_bears_10 : decode b_M_bears 10 = .ok (.iload_n 1, 1) := by decide +kernel
theorem d_M_bears_11 : decode b_M_bears 11 = .ok (.invokestatic 63, 3) := by decide +kernel
theorem d_M_bears_14 : decode b_M_bears 14 = .ok (.ifCond .eq 8, 3) := by decide +kernel
theorem d_M_bears_17 : decode b_M_bears 17 = .ok (.aload_n 0, 1) := by decide +kernel
theorem d_M_bears_18 : decode b_M_bears 18 = .ok (.invokevirtual 220, 3) := by decide +kernel
theorem d_M_bears_21 : decode b_M_bears 21 = .ok (.ireturn, 1) := by decide +kernel
theorem d_M_bears_22 : decode b_M_bears 22 = .ok (.iload_n 1, 1) := by decide +kernel
theorem d_M_bears_23 : decode b_M_bears 23 = .ok (.iconst (-1), 1) := by decide +kernel
theorem d_M_bears_24 : decode b_M_bears 24 = .ok (.if_icmp .ne 10, 3) := by decide +kernel
theorem d_M_bears_27 : decode b_M_bears 27 = .ok (.aload_n 0, 1) := by decide +kernel
theorem d_M_bears_28 : decode b_M_bears 28 = .ok (.invokevirtual 229, 3) := by decide +kernel
theorem d_M_bears_31 : decode b_M_bears 31 = .ok (.goto 8, 3) := by decide +kernel
theorem d_M_bears_34 : decode b_M_bears 34 = .ok (.aload_n 0, 1) := by decide +kernel
theorem d_M_bears_35 : decode b_M_bears 35 = .ok (.iload_n 1, 1) := by decide +kernel
theorem d_M_bears_36 : decode b_M_bears 36 = .ok (.invokevirtual 226, 3) := by decide +kernel
theorem d_M_bears_39 : decode b_M_bears 39 = .ok (.ireturn, 1) := by decide +kernel
theorem d_M_bearsWith_0 : decode b_M_bearsWith 0 = .ok (.aload_n 0, 1) := by decide +kernel
theorem d_M_bearsWith_1 : decode b_M_bearsWith 1 = .ok (.getfield 21, 3) := by decide +kernel
theorem d_M_bearsWith_4 : decode b_M_bearsWith 4 = .ok (.iconst 5, 1) := by decide +kernel
theorem d_M_bearsWith_5 : decode b_M_bearsWith 5 = .ok (.iload_n 1, 1) := by decide +kernel
theorem d_M_bearsWith_6 : decode b_M_bearsWith 6 = .ok (.iadd, 1) := by decide +kernel
theorem d_M_bearsWith_7 : decode b_M_bearsWith 7 = .ok (.iaload, 1) := by decide +kernel
theorem d_M_bearsWith_8 : decode b_M_bearsWith 8 = .ok (.istore_n 3, 1) := by decide +kernel
theorem d_M_bearsWith_9 : decode b_M_bearsWith 9 = .ok (.aload_n 0, 1) := by decide +kernel
theorem d_M_bearsWith_10 : decode b_M_bearsWith 10 = .ok (.getfield 21, 3) := by decide +kernel
theorem d_M_bearsWith_13 : decode b_M_bearsWith 13 = .ok (.iconst 5, 1) := by decide +kernel
theorem d_M_bearsWith_14 : decode b_M_bearsWith 14 = .ok (.iload_n 2, 1) := by decide +kernel
theorem d_M_bearsWith_15 : decode b_M_bearsWith 15 = .ok (.iadd, 1) := by decide +kernel
theorem d_M_bearsWith_16 : decode b_M_bearsWith 16 = .ok (.iaload, 1) := by decide +kernel
theorem d_M_bearsWith_17 : decode b_M_bearsWith 17 = .ok (.istore 4, 2) := by decide +kernel
theorem d_M_bearsWith_19 : decode b_M_bearsWith 19 = .ok (.aload_n 0, 1) := by decide +kernel
theorem d_M_bearsWith_20 : decode b_M_bearsWith 20 = .ok (.getfield 21, 3) := by decide +kernel
theorem d_M_bearsWith_23 : decode b_M_bearsWith 23 = .ok (.iconst 5, 1) := by decide +kernel
theorem d_M_bearsWith_24 : decode b_M_bearsWith 24 = .ok (.iload_n 1, 1) := by decide +kernel
theorem d_M_bearsWith_25 : decode b_M_bearsWith 25 = .ok (.iadd, 1) := by decide +kernel
theorem d_M_bearsWith_26 : decode b_M_bearsWith 26 = .ok (.iconst 1, 1) := by decide +kernel
theorem d_M_bearsWith_27 : decode b_M_bearsWith 27 = .ok (.iastore, 1) := by decide +kernel
theorem d_M_bearsWith_28 : decode b_M_bearsWith 28 = .ok (.aload_n 0, 1) := by decide +kernel
theorem d_M_bearsWith_29 : decode b_M_bearsWith 29 = .ok (.getfield 21, 3) := by decide +kernel
theorem d_M_bearsWith_32 : decode b_M_bearsWith 32 = .ok (.iconst 5, 1) := by decide +kernel
theorem d_M_bearsWith_33 : decode b_M_bearsWith 33 = .ok (.iload_n 2, 1) := by decide +kernel
theorem d_M_bearsWith_34 : decode b_M_bearsWith 34 = .ok (.iadd, 1) := by decide +kernel
theorem d_M_bearsWith_35 : decode b_M_bearsWith 35 = .ok (.iconst 1, 1) := by decide +kernel
theorem d_M_bearsWith_36 : decode b_M_bearsWith 36 = .ok (.iastore, 1) := by decide +kernel
theorem d_M_bearsWith_37 : decode b_M_bearsWith 37 = .ok (.aload_n 0, 1) := by decide +kernel
theorem d_M_bearsWith_38 : decode b_M_bearsWith 38 = .ok (.aload_n 0, 1) := by decide +kernel
theorem d_M_bearsWith_39 : decode b_M_bearsWith 39 = .ok (.invokevirtual 229, 3) := by decide +kernel
theorem d_M_bearsWith_42 : decode b_M_bearsWith 42 = .ok (.invokevirtual 226, 3) := by decide +kernel
theorem d_M_bearsWith_45 : decode b_M_bearsWith 45 = .ok (.istore 5, 2) := by decide +kernel
theorem d_M_bearsWith_47 : decode b_M_bearsWith 47 = .ok (.aload_n 0, 1) := by decide +kernel
theorem d_M_bearsWith_48 : decode b_M_bearsWith 48 = .ok (.getfield 21, 3) := by decide +kernel
theorem d_M_bearsWith_51 : decode b_M_bearsWith 51 = .ok (.iconst 5, 1) := by decide +kernel
theorem d_M_bearsWith_52 : decode b_M_bearsWith 52 = .ok (.iload_n 1, 1) := by decide +kernel
theorem d_M_bearsWith_53 : decode b_M_bearsWith 53 = .ok (.iadd, 1) := by decide +kernel
theorem d_M_bearsWith_54 : decode b_M_bearsWith 54 = .ok (.iload_n 3, 1) := by decide +kernel
theorem d_M_bearsWith_55 : decode b_M_bearsWith 55 = .ok (.iastore, 1) := by decide +kernel
theorem d_M_bearsWith_56 : decode b_M_bearsWith 56 = .ok (.aload_n 0, 1) := by decide +kernel
theorem d_M_bearsWith_57 : decode b_M_bearsWith 57 = .ok (.getfield 21, 3) := by decide +kernel
theorem d_M_bearsWith_60 : decode b_M_bearsWith 60 = .ok (.iconst 5, 1) := by decide +kernel
theorem d_M_bearsWith_61 : decode b_M_bearsWith 61 = .ok (.iload_n 2, 1) := by decide +kernel
theorem d_M_bearsWith_62 : decode b_M_bearsWith 62 = .ok (.iadd, 1) := by decide +kernel
theorem d_M_bearsWith_63 : decode b_M_bearsWith 63 = .ok (.iload_n 1, 1) := by decide +kernel
theorem d_M_bearsWith_64 : decode b_M_bearsWith 64 = .ok (.iload_n 2, 1) := by decide +kernel
theorem d_M_bearsWith_65 : decode b_M_bearsWith 65 = .ok (.if_icmp .ne 7, 3) := by decide +kernel
theorem d_M_bearsWith_68 : decode b_M_bearsWith 68 = .ok (.iload_n 3, 1) := by decide +kernel
theorem d_M_bearsWith_69 : decode b_M_bearsWith 69 = .ok (.goto 5, 3) := by decide +kernel
theorem d_M_bearsWith_72 : decode b_M_bearsWith 72 = .ok (.iload 4, 2) := by decide +kernel
theorem d_M_bearsWith_74 : decode b_M_bearsWith 74 = .ok (.iastore, 1) := by decide +kernel
theorem d_M_bearsWith_75 : decode b_M_bearsWith 75 = .ok (.iload 5, 2) := by decide +kernel
theorem d_M_bearsWith_77 : decode b_M_bearsWith 77 = .ok (.ireturn, 1) := by decide +kernel
theorem d_M_twofold_0 : decode b_M_twofold 0 = .ok (.aload_n 0, 1) := by decide +kernel
theorem d_M_twofold_1 : decode b_M_twofold 1 = .ok (.iconst 0, 1) := by decide +kernel
theorem d_M_twofold_2 : decode b_M_twofold 2 = .ok (.putfield 1, 3) := by decide +kernel
theorem d_M_twofold_5 : decode b_M_twofold 5 = .ok (.iload_n 1, 1) := by decide +kernel
theorem d_M_twofold_6 : decode b_M_twofold 6 = .ok (.i2l, 1) := by decide +kernel
theorem d_M_twofold_7 : decode b_M_twofold 7 = .ok (.lconst 1, 1) := by decide +kernel
theorem d_M_twofold_8 : decode b_M_twofold 8 = .ok (.ldc2_w 73, 3) := by decide +kernel
theorem d_M_twofold_11 : decode b_M_twofold 11 = .ok (.invokestatic 57, 3) := by decide +kernel
theorem d_M_twofold_14 : decode b_M_twofold 14 = .ok (.ifCond .eq 8, 3) := by decide +kernel
theorem d_M_twofold_17 : decode b_M_twofold 17 = .ok (.iload_n 2, 1) := by decide +kernel
theorem d_M_twofold_18 : decode b_M_twofold 18 = .ok (.iconst (-1), 1) := by decide +kernel
theorem d_M_twofold_19 : decode b_M_twofold 19 = .ok (.if_icmp .ge 8, 3) := by decide +kernel
theorem d_M_twofold_22 : decode b_M_twofold 22 = .ok (.aload_n 0, 1) := by decide +kernel
theorem d_M_twofold_23 : decode b_M_twofold 23 = .ok (.invokevirtual 220, 3) := by decide +kernel
theorem d_M_twofold_26 : decode b_M_twofold 26 = .ok (.ireturn, 1) := by decide +kernel
theorem d_M_twofold_27 : decode b_M_twofold 27 = .ok (.aload_n 0, 1) := by decide +kernel
theorem d_M_twofold_28 : decode b_M_twofold 28 = .ok (.getfield 21, 3) := by decide +kernel
theorem d_M_twofold_31 : decode b_M_twofold 31 = .ok (.iconst 1, 1) := by decide +kernel
theorem d_M_twofold_32 : decode b_M_twofold 32 = .ok (.iaload, 1) := by decide +kernel
theorem d_M_twofold_33 : decode b_M_twofold 33 = .ok (.invokestatic 69, 3) := by decide +kernel
theorem d_M_twofold_36 : decode b_M_twofold 36 = .ok (.iload_n 1, 1) := by decide +kernel
theorem d_M_twofold_37 : decode b_M_twofold 37 = .ok (.if_icmp .lt 8, 3) := by decide +kernel
theorem d_M_twofold_40 : decode b_M_twofold 40 = .ok (.iload_n 2, 1) := by decide +kernel
theorem d_M_twofold_41 : decode b_M_twofold 41 = .ok (.iload_n 1, 1) := by decide +kernel
theorem d_M_twofold_42 : decode b_M_twofold 42 = .ok (.if_icmp .lt 23, 3) := by decide +kernel
theorem d_M_twofold_45 : decode b_M_twofold 45 = .ok (.aload_n 0, 1) := by decide +kernel
theorem d_M_twofold_46 : decode b_M_twofold 46 = .ok (.getfield 21, 3) := by decide +kernel
theorem d_M_twofold_49 : decode b_M_twofold 49 = .ok (.iconst 1, 1) := by decide +kernel
theorem d_M_twofold_50 : decode b_M_twofold 50 = .ok (.iaload, 1) := by decide +kernel
theorem d_M_twofold_51 : decode b_M_twofold 51 = .ok (.invokestatic 69, 3) := by decide +kernel
theorem d_M_twofold_54 : decode b_M_twofold 54 = .ok (.iload_n 1, 1) := by decide +kernel
theorem d_M_twofold_55 : decode b_M_twofold 55 = .ok (.if_icmp .ge 7, 3) := by decide +kernel
theorem d_M_twofold_58 : decode b_M_twofold 58 = .ok (.iconst (-1), 1) := by decide +kernel
theorem d_M_twofold_59 : decode b_M_twofold 59 = .ok (.goto 5, 3) := by decide +kernel
theorem d_M_twofold_62 : decode b_M_twofold 62 = .ok (.bipush (-5), 2) := by decide +kernel
theorem d_M_twofold_64 : decode b_M_twofold 64 = .ok (.ireturn, 1) := by decide +kernel
theorem d_M_twofold_65 : decode b_M_twofold 65 = .ok (.iconst (-1), 1) := by decide +kernel
theorem d_M_twofold_66 : decode b_M_twofold 66 = .ok (.istore_n 3, 1) := by decide +kernel
theorem d_M_twofold_67 : decode b_M_twofold 67 = .ok (.iconst (-1), 1) := by decide +kernel
theorem d_M_twofold_68 : decode b_M_twofold 68 = .ok (.istore 4, 2) := by decide +kernel
theorem d_M_twofold_70 : decode b_M_twofold 70 = .ok (.iconst (-1), 1) := by decide +kernel
theorem d_M_twofold_71 : decode b_M_twofold 71 = .ok (.istore 5, 2) := by decide +kernel
theorem d_M_twofold_73 : decode b_M_twofold 73 = .ok (.iconst 0, 1) := by decide +kernel
theorem d_M_twofold_74 : decode b_M_twofold 74 = .ok (.istore 6, 2) := by decide +kernel
theorem d_M_twofold_76 : decode b_M_twofold 76 = .ok (.iload 6, 2) := by decide +kernel
theorem d_M_twofold_78 : decode b_M_twofold 78 = .ok (.aload_n 0, 1) := by decide +kernel
theorem d_M_twofold_79 : decode b_M_twofold 79 = .ok (.getfield 21, 3) := by decide +kernel
theorem d_M_twofold_82 : decode b_M_twofold 82 = .ok (.iconst 0, 1) := by decide +kernel
theorem d_M_twofold_83 : decode b_M_twofold 83 = .ok (.iaload, 1) := by decide +kernel
theorem d_M_twofold_84 : decode b_M_twofold 84 = .ok (.if_icmp .ge 135, 3) := by decide +kernel
theorem d_M_twofold_87 : decode b_M_twofold 87 = .ok (.iload_n 1, 1) := by decide +kernel
theorem d_M_twofold_88 : decode b_M_twofold 88 = .ok (.iconst 1, 1) := by decide +kernel
theorem d_M_twofold_89 : decode b_M_twofold 89 = .ok (.if_icmp .ne 8, 3) := by decide +kernel
theorem d_M_twofold_92 : decode b_M_twofold 92 = .ok (.iload 6, 2) := by decide +kernel
theorem d_M_twofold_94 : decode b_M_twofold 94 = .ok (.goto 7, 3) := by decide +kernel
theorem d_M_twofold_97 : decode b_M_twofold 97 = .ok (.iload 6, 2) := by decide +kernel
theorem d_M_twofold_99 : decode b_M_twofold 99 = .ok (.iconst 1, 1) := by decide +kernel
theorem d_M_twofold_100 : decode b_M_twofold 100 = .ok (.iadd, 1) := by decide +kernel
theorem d_M_twofold_101 : decode b_M_twofold 101 = .ok (.istore 7, 2) := by decide +kernel
theorem d_M_twofold_103 : decode b_M_twofold 103 = .ok (.iload 7, 2) := by decide +kernel
theorem d_M_twofold_105 : decode b_M_twofold 105 = .ok (.iload_n 1, 1) := by decide +kernel
theorem d_M_twofold_106 : decode b_M_twofold 106 = .ok (.iconst 1, 1) := by decide +kernel
theorem d_M_twofold_107 : decode b_M_twofold 107 = .ok (.if_icmp .ne 10, 3) := by decide +kernel
theorem d_M_twofold_110 : decode b_M_twofold 110 = .ok (.iload 6, 2) := by decide +kernel
theorem d_M_twofold_112 : decode b_M_twofold 112 = .ok (.iconst 1, 1) := by decide +kernel
theorem d_M_twofold_113 : decode b_M_twofold 113 = .ok (.iadd, 1) := by decide +kernel
theorem d_M_twofold_114 : decode b_M_twofold 114 = .ok (.goto 9, 3) := by decide +kernel
theorem d_M_twofold_117 : decode b_M_twofold 117 = .ok (.aload_n 0, 1) := by decide +kernel
theorem d_M_twofold_118 : decode b_M_twofold 118 = .ok (.getfield 21, 3) := by decide +kernel
theorem d_M_twofold_121 : decode b_M_twofold 121 = .ok (.iconst 0, 1) := by decide +kernel
theorem d_M_twofold_122 : decode b_M_twofold 122 = .ok (.iaload, 1) := by decide +kernel
theorem d_M_twofold_123 : decode b_M_twofold 123 = .ok (.if_icmp .ge 90, 3) := by decide +kernel
theorem d_M_twofold_126 : decode b_M_twofold 126 = .ok (.aload_n 0, 1) := by decide +kernel
theorem d_M_twofold_127 : decode b_M_twofold 127 = .ok (.getfield 21, 3) := by decide +kernel
theorem d_M_twofold_130 : decode b_M_twofold 130 = .ok (.iconst 1, 1) := by decide +kernel
theorem d_M_twofold_131 : decode b_M_twofold 131 = .ok (.iaload, 1) := by decide +kernel
theorem d_M_twofold_132 : decode b_M_twofold 132 = .ok (.iload 6, 2) := by decide +kernel
theorem d_M_twofold_134 : decode b_M_twofold 134 = .ok (.invokestatic 96, 3) := by decide +kernel
theorem d_M_twofold_137 : decode b_M_twofold 137 = .ok (.ifCond .eq 70, 3) := by decide +kernel
theorem d_M_twofold_140 : decode b_M_twofold 140 = .ok (.aload_n 0, 1) := by decide +kernel
theorem d_M_twofold_141 : decode b_M_twofold 141 = .ok (.getfield 21, 3) := by decide +kernel
theorem d_M_twofold_144 : decode b_M_twofold 144 = .ok (.iconst 1, 1) := by decide +kernel
theorem d_M_twofold_145 : decode b_M_twofold 145 = .ok (.iaload, 1) := by decide +kernel
theorem d_M_twofold_146 : decode b_M_twofold 146 = .ok (.iload 7, 2) := by decide +kernel
theorem d_M_twofold_148 : decode b_M_twofold 148 = .ok (.invokestatic 96, 3) := by decide +kernel
theorem d_M_twofold_151 : decode b_M_twofold 151 = .ok (.ifCond .eq 56, 3) := by decide +kernel
theorem d_M_twofold_154 : decode b_M_twofold 154 = .ok (.aload_n 0, 1) := by decide +kernel
theorem d_M_twofold_155 : decode b_M_twofold 155 = .ok (.iload 6, 2) := by decide +kernel
theorem d_M_twofold_157 : decode b_M_twofold 157 = .ok (.iload 7, 2) := by decide +kernel
theorem d_M_twofold_159 : decode b_M_twofold 159 = .ok (.invokevirtual 232, 3) := by decide +kernel
theorem d_M_twofold_162 : decode b_M_twofold 162 = .ok (.istore 8, 2) := by decide +kernel
theorem d_M_twofold_164 : decode b_M_twofold 164 = .ok (.iload 8, 2) := by decide +kernel
theorem d_M_twofold_166 : decode b_M_twofold 166 = .ok (.iload_n 3, 1) := by decide +kernel
theorem d_M_twofold_167 : decode b_M_twofold 167 = .ok (.if_icmp .le 8, 3) := by decide +kernel
theorem d_M_twofold_170 : decode b_M_twofold 170 = .ok (.iload 6, 2) := by decide +kernel
theorem d_M_twofold_172 : decode b_M_twofold 172 = .ok (.goto 5, 3) := by decide +kernel
theorem d_M_twofold_175 : decode b_M_twofold 175 = .ok (.iload 4, 2) := by decide +kernel
theorem d_M_twofold_177 : decode b_M_twofold 177 = .ok (.istore 4, 2) := by decide +kernel
theorem d_M_twofold_179 : decode b_M_twofold 179 = .ok (.iload 8, 2) := by decide +kernel
theorem d_M_twofold_181 : decode b_M_twofold 181 = .ok (.iload_n 3, 1) := by decide +kernel
theorem d_M_twofold_182 : decode b_M_twofold 182 = .ok (.if_icmp .le 8, 3) := by decide +kernel
theorem d_M_twofold_185 : decode b_M_twofold 185 = .ok (.iload 7, 2) := by decide +kernel
theorem d_M_twofold_187 : decode b_M_twofold 187 = .ok (.goto 5, 3) := by decide +kernel
theorem d_M_twofold_190 : decode b_M_twofold 190 = .ok (.iload 5, 2) := by decide +kernel
theorem d_M_twofold_192 : decode b_M_twofold 192 = .ok (.istore 5, 2) := by decide +kernel
theorem d_M_twofold_194 : decode b_M_twofold 194 = .ok (.iload 8, 2) := by decide +kernel
theorem d_M_twofold_196 : decode b_M_twofold 196 = .ok (.iload_n 3, 1) := by decide +kernel
theorem d_M_twofold_197 : decode b_M_twofold 197 = .ok (.if_icmp .le 8, 3) := by decide +kernel
theorem d_M_twofold_200 : decode b_M_twofold 200 = .ok (.iload 8, 2) := by decide +kernel
theorem d_M_twofold_202 : decode b_M_twofold 202 = .ok (.goto 4, 3) := by decide +kernel
theorem d_M_twofold_205 : decode b_M_twofold 205 = .ok (.iload_n 3, 1) := by decide +kernel
theorem d_M_twofold_206 : decode b_M_twofold 206 = .ok (.istore_n 3, 1) := by decide +kernel
theorem d_M_twofold_207 : decode b_M_twofold 207 = .ok (.iinc 7 1, 3) := by decide +kernel
theorem d_M_twofold_210 : decode b_M_twofold 210 = .ok (.goto (-107), 3) := by decide +kernel
theorem d_M_twofold_213 : decode b_M_twofold 213 = .ok (.iinc 6 1, 3) := by decide +kernel
theorem d_M_twofold_216 : decode b_M_twofold 216 = .ok (.goto (-140), 3) := by decide +kernel
theorem d_M_twofold_219 : decode b_M_twofold 219 = .ok (.iload_n 2, 1) := by decide +kernel
theorem d_M_twofold_220 : decode b_M_twofold 220 = .ok (.iconst (-1), 1) := by decide +kernel
theorem d_M_twofold_221 : decode b_M_twofold 221 = .ok (.if_icmp .ne 7, 3) := by decide +kernel
theorem d_M_twofold_224 : decode b_M_twofold 224 = .ok (.iload_n 3, 1) := by decide +kernel
theorem d_M_twofold_225 : decode b_M_twofold 225 = .ok (.goto 14, 3) := by decide +kernel
theorem d_M_twofold_228 : decode b_M_twofold 228 = .ok (.iload_n 2, 1) := by decide +kernel
theorem d_M_twofold_229 : decode b_M_twofold 229 = .ok (.ifCond .ne 8, 3) := by decide +kernel
theorem d_M_twofold_232 : decode b_M_twofold 232 = .ok (.iload 4, 2) := by decide +kernel
theorem d_M_twofold_234 : decode b_M_twofold 234 = .ok (.goto 5, 3) := by decide +kernel
theorem d_M_twofold_237 : decode b_M_twofold 237 = .ok (.iload 5, 2) := by decide +kernel
theorem d_M_twofold_239 : decode b_M_twofold 239 = .ok (.ireturn, 1) := by decide +kernel
theorem d_M_depthFor_0 : decode b_M_depthFor 0 = .ok (.aload_n 0, 1) := by decide +kernel
theorem d_M_depthFor_1 : decode b_M_depthFor 1 = .ok (.getfield 21, 3) := by decide +kernel
theorem d_M_depthFor_4 : decode b_M_depthFor 4 = .ok (.bipush 13, 2) := by decide +kernel
theorem d_M_depthFor_6 : decode b_M_depthFor 6 = .ok (.iload_n 1, 1) := by decide +kernel
theorem d_M_depthFor_7 : decode b_M_depthFor 7 = .ok (.iadd, 1) := by decide +kernel
theorem d_M_depthFor_8 : decode b_M_depthFor 8 = .ok (.iaload, 1) := by decide +kernel
theorem d_M_depthFor_9 : decode b_M_depthFor 9 = .ok (.istore 4, 2) := by decide +kernel
theorem d_M_depthFor_11 : decode b_M_depthFor 11 = .ok (.iload_n 2, 1) := by decide +kernel
theorem d_M_depthFor_12 : decode b_M_depthFor 12 = .ok (.istore 5, 2) := by decide +kernel
theorem d_M_depthFor_14 : decode b_M_depthFor 14 = .ok (.aload_n 0, 1) := by decide +kernel
theorem d_M_depthFor_15 : decode b_M_depthFor 15 = .ok (.getfield 21, 3) := by decide +kernel
theorem d_M_depthFor_18 : decode b_M_depthFor 18 = .ok (.bipush 13, 2) := by decide +kernel
theorem d_M_depthFor_20 : decode b_M_depthFor 20 = .ok (.iload_n 1, 1) := by decide +kernel
theorem d_M_depthFor_21 : decode b_M_depthFor 21 = .ok (.iadd, 1) := by decide +kernel
theorem d_M_depthFor_22 : decode b_M_depthFor 22 = .ok (.iload 5, 2) := by decide +kernel
theorem d_M_depthFor_24 : decode b_M_depthFor 24 = .ok (.iastore, 1) := by decide +kernel
theorem d_M_depthFor_25 : decode b_M_depthFor 25 = .ok (.iload 5, 2) := by decide +kernel
theorem d_M_depthFor_27 : decode b_M_depthFor 27 = .ok (.bipush 10, 2) := by decide +kernel
theorem d_M_depthFor_29 : decode b_M_depthFor 29 = .ok (.if_icmp .ge 35, 3) := by decide +kernel
theorem d_M_depthFor_32 : decode b_M_depthFor 32 = .ok (.aload_n 0, 1) := by decide +kernel
theorem d_M_depthFor_33 : decode b_M_depthFor 33 = .ok (.iload_n 1, 1) := by decide +kernel
theorem d_M_depthFor_34 : decode b_M_depthFor 34 = .ok (.aload_n 0, 1) := by decide +kernel
theorem d_M_depthFor_35 : decode b_M_depthFor 35 = .ok (.getfield 21, 3) := by decide +kernel
theorem d_M_depthFor_38 : decode b_M_depthFor 38 = .ok (.iconst 1, 1) := by decide +kernel
theorem d_M_depthFor_39 : decode b_M_depthFor 39 = .ok (.iaload, 1) := by decide +kernel
theorem d_M_depthFor_40 : decode b_M_depthFor 40 = .ok (.invokevirtual 189, 3) := by decide +kernel
theorem d_M_depthFor_43 : decode b_M_depthFor 43 = .ok (.iload_n 3, 1) := by decide +kernel
theorem d_M_depthFor_44 : decode b_M_depthFor 44 = .ok (.if_icmp .ge 20, 3) := by decide +kernel
theorem d_M_depthFor_47 : decode b_M_depthFor 47 = .ok (.iinc 5 1, 3) := by decide +kernel
theorem d_M_depthFor_50 : decode b_M_depthFor 50 = .ok (.aload_n 0, 1) := by decide +kernel
theorem d_M_depthFor_51 : decode b_M_depthFor 51 = .ok (.getfield 21, 3) := by decide +kernel
theorem d_M_depthFor_54 : decode b_M_depthFor 54 = .ok (.bipush 13, 2) := by decide +kernel
theorem d_M_depthFor_56 : decode b_M_depthFor 56 = .ok (.iload_n 1, 1) := by decide +kernel
theorem d_M_depthFor_57 : decode b_M_depthFor 57 = .ok (.iadd, 1) := by decide +kernel
theorem d_M_depthFor_58 : decode b_M_depthFor 58 = .ok (.iload 5, 2) := by decide +kernel
theorem d_M_depthFor_60 : decode b_M_depthFor 60 = .ok (.iastore, 1) := by decide +kernel
theorem d_M_depthFor_61 : decode b_M_depthFor 61 = .ok (.goto (-36), 3) := by decide +kernel
theorem d_M_depthFor_64 : decode b_M_depthFor 64 = .ok (.aload_n 0, 1) := by decide +kernel
theorem d_M_depthFor_65 : decode b_M_depthFor 65 = .ok (.getfield 21, 3) := by decide +kernel
theorem d_M_depthFor_68 : decode b_M_depthFor 68 = .ok (.bipush 13, 2) := by decide +kernel
theorem d_M_depthFor_70 : decode b_M_depthFor 70 = .ok (.iload_n 1, 1) := by decide +kernel
theorem d_M_depthFor_71 : decode b_M_depthFor 71 = .ok (.iadd, 1) := by decide +kernel
theorem d_M_depthFor_72 : decode b_M_depthFor 72 = .ok (.iload 4, 2) := by decide +kernel
theorem d_M_depthFor_74 : decode b_M_depthFor 74 = .ok (.iastore, 1) := by decide +kernel
theorem d_M_depthFor_75 : decode b_M_depthFor 75 = .ok (.iload 5, 2) := by decide +kernel
theorem d_M_depthFor_77 : decode b_M_depthFor 77 = .ok (.ireturn, 1) := by decide +kernel
theorem d_M_strokes_0 : decode b_M_strokes 0 = .ok (.aload_n 0, 1) := by decide +kernel
theorem d_M_strokes_1 : decode b_M_strokes 1 = .ok (.iconst 0, 1) := by decide +kernel
theorem d_M_strokes_2 : decode b_M_strokes 2 = .ok (.putfield 1, 3) := by decide +kernel
theorem d_M_strokes_5 : decode b_M_strokes 5 = .ok (.iload_n 1, 1) := by decide +kernel
theorem d_M_strokes_6 : decode b_M_strokes 6 = .ok (.iload_n 2, 1) := by decide +kernel
theorem d_M_strokes_7 : decode b_M_strokes 7 = .ok (.invokestatic 205, 3) := by decide +kernel
theorem d_M_strokes_10 : decode b_M_strokes 10 = .ok (.ifCond .ne 16, 3) := by decide +kernel
theorem d_M_strokes_13 : decode b_M_strokes 13 = .ok (.iload_n 3, 1) := by decide +kernel
theorem d_M_strokes_14 : decode b_M_strokes 14 = .ok (.iconst (-1), 1) := by decide +kernel
theorem d_M_strokes_15 : decode b_M_strokes 15 = .ok (.if_icmp .eq 16, 3) := by decide +kernel
theorem d_M_strokes_18 : decode b_M_strokes 18 = .ok (.aload_n 0, 1) := by decide +kernel
theorem d_M_strokes_19 : decode b_M_strokes 19 = .ok (.iload_n 3, 1) := by decide +kernel
theorem d_M_strokes_20 : decode b_M_strokes 20 = .ok (.invokevirtual 81, 3) := by decide +kernel
theorem d_M_strokes_23 : decode b_M_strokes 23 = .ok (.ifCond .eq 8, 3) := by decide +kernel
theorem d_M_strokes_26 : decode b_M_strokes 26 = .ok (.aload_n 0, 1) := by decide +kernel
theorem d_M_strokes_27 : decode b_M_strokes 27 = .ok (.invokevirtual 220, 3) := by decide +kernel
theorem d_M_strokes_30 : decode b_M_strokes 30 = .ok (.ireturn, 1) := by decide +kernel
theorem d_M_strokes_31 : decode b_M_strokes 31 = .ok (.iconst 0, 1) := by decide +kernel
theorem d_M_strokes_32 : decode b_M_strokes 32 = .ok (.istore 4, 2) := by decide +kernel
theorem d_M_strokes_34 : decode b_M_strokes 34 = .ok (.iconst 0, 1) := by decide +kernel
theorem d_M_strokes_35 : decode b_M_strokes 35 = .ok (.istore 5, 2) := by decide +kernel
theorem d_M_strokes_37 : decode b_M_strokes 37 = .ok (.iconst 0, 1) := by decide +kernel
theorem d_M_strokes_38 : decode b_M_strokes 38 = .ok (.istore 6, 2) := by decide +kernel
theorem d_M_strokes_40 : decode b_M_strokes 40 = .ok (.iload 6, 2) := by decide +kernel
theorem d_M_strokes_42 : decode b_M_strokes 42 = .ok (.aload_n 0, 1) := by decide +kernel
theorem d_M_strokes_43 : decode b_M_strokes 43 = .ok (.getfield 21, 3) := by decide +kernel
theorem d_M_strokes_46 : decode b_M_strokes 46 = .ok (.iconst 0, 1) := by decide +kernel
theorem d_M_strokes_47 : decode b_M_strokes 47 = .ok (.iaload, 1) := by decide +kernel
theorem d_M_strokes_48 : decode b_M_strokes 48 = .ok (.if_icmp .ge 104, 3) := by decide +kernel
theorem d_M_strokes_51 : decode b_M_strokes 51 = .ok (.aload_n 0, 1) := by decide +kernel
theorem d_M_strokes_52 : decode b_M_strokes 52 = .ok (.getfield 21, 3) := by decide +kernel
theorem d_M_strokes_55 : decode b_M_strokes 55 = .ok (.iconst 1, 1) := by decide +kernel
theorem d_M_strokes_56 : decode b_M_strokes 56 = .ok (.iaload, 1) := by decide +kernel
theorem d_M_strokes_57 : decode b_M_strokes 57 = .ok (.iload 6, 2) := by decide +kernel
theorem d_M_strokes_59 : decode b_M_strokes 59 = .ok (.invokestatic 96, 3) := by decide +kernel
theorem d_M_strokes_62 : decode b_M_strokes 62 = .ok (.ifCond .eq 30, 3) := by decide +kernel
theorem d_M_strokes_65 : decode b_M_strokes 65 = .ok (.aload_n 0, 1) := by decide +kernel
theorem d_M_strokes_66 : decode b_M_strokes 66 = .ok (.iload 6, 2) := by decide +kernel
theorem d_M_strokes_68 : decode b_M_strokes 68 = .ok (.aload_n 0, 1) := by decide +kernel
theorem d_M_strokes_69 : decode b_M_strokes 69 = .ok (.getfield 21, 3) := by decide +kernel
theorem d_M_strokes_72 : decode b_M_strokes 72 = .ok (.bipush 13, 2) := by decide +kernel
theorem d_M_strokes_74 : decode b_M_strokes 74 = .ok (.iload 6, 2) := by decide +kernel
theorem d_M_strokes_76 : decode b_M_strokes 76 = .ok (.iadd, 1) := by decide +kernel
theorem d_M_strokes_77 : decode b_M_strokes 77 = .ok (.iaload, 1) := by decide +kernel
theorem d_M_strokes_78 : decode b_M_strokes 78 = .ok (.aload_n 0, 1) := by decide +kernel
theorem d_M_strokes_79 : decode b_M_strokes 79 = .ok (.iload 6, 2) := by decide +kernel
theorem d_M_strokes_81 : decode b_M_strokes 81 = .ok (.iload_n 1, 1) := by decide +kernel
theorem d_M_strokes_82 : decode b_M_strokes 82 = .ok (.iload_n 2, 1) := by decide +kernel
theorem d_M_strokes_83 : decode b_M_strokes 83 = .ok (.invokevirtual 217, 3) := by decide +kernel
theorem d_M_strokes_86 : decode b_M_strokes 86 = .ok (.invokevirtual 235, 3) := by decide +kernel
theorem d_M_strokes_89 : decode b_M_strokes 89 = .ok (.goto 13, 3) := by decide +kernel
theorem d_M_strokes_92 : decode b_M_strokes 92 = .ok (.aload_n 0, 1) := by decide +kernel
theorem d_M_strokes_93 : decode b_M_strokes 93 = .ok (.getfield 21, 3) := by decide +kernel
theorem d_M_strokes_96 : decode b_M_strokes 96 = .ok (.bipush 13, 2) := by decide +kernel
theorem d_M_strokes_98 : decode b_M_strokes 98 = .ok (.iload 6, 2) := by decide +kernel
theorem d_M_strokes_100 : decode b_M_strokes 100 = .ok (.iadd, 1) := by decide +kernel
theorem d_M_strokes_101 : decode b_M_strokes 101 = .ok (.iaload, 1) := by decide +kernel
theorem d_M_strokes_102 : decode b_M_strokes 102 = .ok (.istore 7, 2) := by decide +kernel
theorem d_M_strokes_104 : decode b_M_strokes 104 = .ok (.iload 7, 2) := by decide +kernel
theorem d_M_strokes_106 : decode b_M_strokes 106 = .ok (.bipush 9, 2) := by decide +kernel
theorem d_M_strokes_108 : decode b_M_strokes 108 = .ok (.if_icmp .le 5, 3) := by decide +kernel
theorem d_M_strokes_111 : decode b_M_strokes 111 = .ok (.iconst (-1), 1) := by decide +kernel
theorem d_M_strokes_112 : decode b_M_strokes 112 = .ok (.ireturn, 1) := by decide +kernel
theorem d_M_strokes_113 : decode b_M_strokes 113 = .ok (.iload 4, 2) := by decide +kernel
theorem d_M_strokes_115 : decode b_M_strokes 115 = .ok (.iload 7, 2) := by decide +kernel
theorem d_M_strokes_117 : decode b_M_strokes 117 = .ok (.aload_n 0, 1) := by decide +kernel
theorem d_M_strokes_118 : decode b_M_strokes 118 = .ok (.getfield 21, 3) := by decide +kernel
theorem d_M_strokes_121 : decode b_M_strokes 121 = .ok (.bipush 13, 2) := by decide +kernel
theorem d_M_strokes_123 : decode b_M_strokes 123 = .ok (.iload 6, 2) := by decide +kernel
theorem d_M_strokes_125 : decode b_M_strokes 125 = .ok (.iadd, 1) := by decide +kernel
theorem d_M_strokes_126 : decode b_M_strokes 126 = .ok (.iaload, 1) := by decide +kernel
theorem d_M_strokes_127 : decode b_M_strokes 127 = .ok (.isub, 1) := by decide +kernel
theorem d_M_strokes_128 : decode b_M_strokes 128 = .ok (.iadd, 1) := by decide +kernel
theorem d_M_strokes_129 : decode b_M_strokes 129 = .ok (.istore 4, 2) := by decide +kernel
theorem d_M_strokes_131 : decode b_M_strokes 131 = .ok (.iload 6, 2) := by decide +kernel
theorem d_M_strokes_133 : decode b_M_strokes 133 = .ok (.iload_n 3, 1) := by decide +kernel
theorem d_M_strokes_134 : decode b_M_strokes 134 = .ok (.if_icmp .ne 8, 3) := by decide +kernel
theorem d_M_strokes_137 : decode b_M_strokes 137 = .ok (.iload 7, 2) := by decide +kernel
theorem d_M_strokes_139 : decode b_M_strokes 139 = .ok (.goto 5, 3) := by decide +kernel
theorem d_M_strokes_142 : decode b_M_strokes 142 = .ok (.iload 5, 2) := by decide +kernel
theorem d_M_strokes_144 : decode b_M_strokes 144 = .ok (.istore 5, 2) := by decide +kernel
theorem d_M_strokes_146 : decode b_M_strokes 146 = .ok (.iinc 6 1, 3) := by decide +kernel
theorem d_M_strokes_149 : decode b_M_strokes 149 = .ok (.goto (-109), 3) := by decide +kernel
theorem d_M_strokes_152 : decode b_M_strokes 152 = .ok (.iload_n 3, 1) := by decide +kernel
theorem d_M_strokes_153 : decode b_M_strokes 153 = .ok (.iconst (-1), 1) := by decide +kernel
theorem d_M_strokes_154 : decode b_M_strokes 154 = .ok (.if_icmp .ne 8, 3) := by decide +kernel
theorem d_M_strokes_157 : decode b_M_strokes 157 = .ok (.iload 4, 2) := by decide +kernel
theorem d_M_strokes_159 : decode b_M_strokes 159 = .ok (.goto 5, 3) := by decide +kernel
theorem d_M_strokes_162 : decode b_M_strokes 162 = .ok (.iload 5, 2) := by decide +kernel
theorem d_M_strokes_164 : decode b_M_strokes 164 = .ok (.ireturn, 1) := by decide +kernel
theorem d_M_setPart_0 : decode b_M_setPart 0 = .ok (.iload_n 1, 1) := by decide +kernel
theorem d_M_setPart_1 : decode b_M_setPart 1 = .ok (.ifCond .ge 9, 3) := by decide +kernel
theorem d_M_setPart_4 : decode b_M_setPart 4 = .ok (.iload_n 1, 1) := by decide +kernel
theorem d_M_setPart_5 : decode b_M_setPart 5 = .ok (.ineg, 1) := by decide +kernel
theorem d_M_setPart_6 : decode b_M_setPart 6 = .ok (.i2l, 1) := by decide +kernel
theorem d_M_setPart_7 : decode b_M_setPart 7 = .ok (.goto 5, 3) := by decide +kernel
theorem d_M_setPart_10 : decode b_M_setPart 10 = .ok (.iload_n 1, 1) := by decide +kernel
theorem d_M_setPart_11 : decode b_M_setPart 11 = .ok (.i2l, 1) := by decide +kernel
theorem d_M_setPart_12 : decode b_M_setPart 12 = .ok (.lstore_n 3, 1) := by decide +kernel
theorem d_M_setPart_13 : decode b_M_setPart 13 = .ok (.iload_n 2, 1) := by decide +kernel
theorem d_M_setPart_14 : decode b_M_setPart 14 = .ok (.i2l, 1) := by decide +kernel
theorem d_M_setPart_15 : decode b_M_setPart 15 = .ok (.lstore 5, 2) := by decide +kernel
theorem d_M_setPart_17 : decode b_M_setPart 17 = .ok (.lload 5, 2) := by decide +kernel
theorem d_M_setPart_19 : decode b_M_setPart 19 = .ok (.lconst 0, 1) := by decide +kernel
theorem d_M_setPart_20 : decode b_M_setPart 20 = .ok (.lcmp, 1) := by decide +kernel
theorem d_M_setPart_21 : decode b_M_setPart 21 = .ok (.ifCond .eq 19, 3) := by decide +kernel
theorem d_M_setPart_24 : decode b_M_setPart 24 = .ok (.lload_n 3, 1) := by decide +kernel
theorem d_M_setPart_25 : decode b_M_setPart 25 = .ok (.lload 5, 2) := by decide +kernel
theorem d_M_setPart_27 : decode b_M_setPart 27 = .ok (.lrem, 1) := by decide +kernel
theorem d_M_setPart_28 : decode b_M_setPart 28 = .ok (.lstore 7, 2) := by decide +kernel
theorem d_M_setPart_30 : decode b_M_setPart 30 = .ok (.lload 5, 2) := by decide +kernel
theorem d_M_setPart_32 : decode b_M_setPart 32 = .ok (.lstore_n 3, 1) := by decide +kernel
theorem d_M_setPart_33 : decode b_M_setPart 33 = .ok (.lload 7, 2) := by decide +kernel
theorem d_M_setPart_35 : decode b_M_setPart 35 = .ok (.lstore 5, 2) := by decide +kernel
theorem d_M_setPart_37 : decode b_M_setPart 37 = .ok (.goto (-20), 3) := by decide +kernel
theorem d_M_setPart_40 : decode b_M_setPart 40 = .ok (.aload_n 0, 1) := by decide +kernel
theorem d_M_setPart_41 : decode b_M_setPart 41 = .ok (.iload_n 1, 1) := by decide +kernel
theorem d_M_setPart_42 : decode b_M_setPart 42 = .ok (.i2l, 1) := by decide +kernel
theorem d_M_setPart_43 : decode b_M_setPart 43 = .ok (.lload_n 3, 1) := by decide +kernel
theorem d_M_setPart_44 : decode b_M_setPart 44 = .ok (.ldiv, 1) := by decide +kernel
theorem d_M_setPart_45 : decode b_M_setPart 45 = .ok (.putfield 238, 3) := by decide +kernel
theorem d_M_setPart_48 : decode b_M_setPart 48 = .ok (.aload_n 0, 1) := by decide +kernel
theorem d_M_setPart_49 : decode b_M_setPart 49 = .ok (.iload_n 2, 1) := by decide +kernel
theorem d_M_setPart_50 : decode b_M_setPart 50 = .ok (.i2l, 1) := by decide +kernel
theorem d_M_setPart_51 : decode b_M_setPart 51 = .ok (.lload_n 3, 1) := by decide +kernel
theorem d_M_setPart_52 : decode b_M_setPart 52 = .ok (.ldiv, 1) := by decide +kernel
theorem d_M_setPart_53 : decode b_M_setPart 53 = .ok (.putfield 46, 3) := by decide +kernel
theorem d_M_setPart_56 : decode b_M_setPart 56 = .ok (.return_, 1) := by decide +kernel
theorem d_M_allOdds_0 : decode b_M_allOdds 0 = .ok (.iconst 0, 1) := by decide +kernel
theorem d_M_allOdds_1 : decode b_M_allOdds 1 = .ok (.istore_n 1, 1) := by decide +kernel
theorem d_M_allOdds_2 : decode b_M_allOdds 2 = .ok (.iconst 0, 1) := by decide +kernel
theorem d_M_allOdds_3 : decode b_M_allOdds 3 = .ok (.istore_n 2, 1) := by decide +kernel
theorem d_M_allOdds_4 : decode b_M_allOdds 4 = .ok (.iload_n 2, 1) := by decide +kernel
theorem d_M_allOdds_5 : decode b_M_allOdds 5 = .ok (.bipush 8, 2) := by decide +kernel
theorem d_M_allOdds_7 : decode b_M_allOdds 7 = .ok (.if_icmp .ge 21, 3) := by decide +kernel
theorem d_M_allOdds_10 : decode b_M_allOdds 10 = .ok (.iload_n 1, 1) := by decide +kernel
theorem d_M_allOdds_11 : decode b_M_allOdds 11 = .ok (.aload_n 0, 1) := by decide +kernel
theorem d_M_allOdds_12 : decode b_M_allOdds 12 = .ok (.getfield 21, 3) := by decide +kernel
theorem d_M_allOdds_15 : decode b_M_allOdds 15 = .ok (.bipush 29, 2) := by decide +kernel
theorem d_M_allOdds_17 : decode b_M_allOdds 17 = .ok (.iload_n 2, 1) := by decide +kernel
theorem d_M_allOdds_18 : decode b_M_allOdds 18 = .ok (.iadd, 1) := by decide +kernel
theorem d_M_allOdds_19 : decode b_M_allOdds 19 = .ok (.iaload, 1) := by decide +kernel
theorem d_M_allOdds_20 : decode b_M_allOdds 20 = .ok (.iadd, 1) := by decide +kernel
theorem d_M_allOdds_21 : decode b_M_allOdds 21 = .ok (.istore_n 1, 1) := by decide +kernel
theorem d_M_allOdds_22 : decode b_M_allOdds 22 = .ok (.iinc 2 1, 3) := by decide +kernel
theorem d_M_allOdds_25 : decode b_M_allOdds 25 = .ok (.goto (-21), 3) := by decide +kernel
theorem d_M_allOdds_28 : decode b_M_allOdds 28 = .ok (.iload_n 1, 1) := by decide +kernel
theorem d_M_allOdds_29 : decode b_M_allOdds 29 = .ok (.ireturn, 1) := by decide +kernel
theorem d_M_goodOdds_0 : decode b_M_goodOdds 0 = .ok (.iconst 0, 1) := by decide +kernel
theorem d_M_goodOdds_1 : decode b_M_goodOdds 1 = .ok (.istore 4, 2) := by decide +kernel
theorem d_M_goodOdds_3 : decode b_M_goodOdds 3 = .ok (.iconst 0, 1) := by decide +kernel
theorem d_M_goodOdds_4 : decode b_M_goodOdds 4 = .ok (.istore 5, 2) := by decide +kernel
theorem d_M_goodOdds_6 : decode b_M_goodOdds 6 = .ok (.iload 5, 2) := by decide +kernel
theorem d_M_goodOdds_8 : decode b_M_goodOdds 8 = .ok (.bipush 8, 2) := by decide +kernel
theorem d_M_goodOdds_10 : decode b_M_goodOdds 10 = .ok (.if_icmp .ge 46, 3) := by decide +kernel
theorem d_M_goodOdds_13 : decode b_M_goodOdds 13 = .ok (.iload 4, 2) := by decide +kernel
theorem d_M_goodOdds_15 : decode b_M_goodOdds 15 = .ok (.aload_n 0, 1) := by decide +kernel
theorem d_M_goodOdds_16 : decode b_M_goodOdds 16 = .ok (.aload_n 0, 1) := by decide +kernel
theorem d_M_goodOdds_17 : decode b_M_goodOdds 17 = .ok (.getfield 21, 3) := by decide +kernel
theorem d_M_goodOdds_20 : decode b_M_goodOdds 20 = .ok (.iconst 1, 1) := by decide +kernel
theorem d_M_goodOdds_21 : decode b_M_goodOdds 21 = .ok (.iaload, 1) := by decide +kernel
theorem d_M_goodOdds_22 : decode b_M_goodOdds 22 = .ok (.iload 5, 2) := by decide +kernel
theorem d_M_goodOdds_24 : decode b_M_goodOdds 24 = .ok (.iload_n 1, 1) := by decide +kernel
theorem d_M_goodOdds_25 : decode b_M_goodOdds 25 = .ok (.iload_n 2, 1) := by decide +kernel
theorem d_M_goodOdds_26 : decode b_M_goodOdds 26 = .ok (.iload_n 3, 1) := by decide +kernel
theorem d_M_goodOdds_27 : decode b_M_goodOdds 27 = .ok (.invokevirtual 192, 3) := by decide +kernel
theorem d_M_goodOdds_30 : decode b_M_goodOdds 30 = .ok (.ifCond .eq 16, 3) := by decide +kernel
theorem d_M_goodOdds_33 : decode b_M_goodOdds 33 = .ok (.aload_n 0, 1) := by decide +kernel
theorem d_M_goodOdds_34 : decode b_M_goodOdds 34 = .ok (.getfield 21, 3) := by decide +kernel
theorem d_M_goodOdds_37 : decode b_M_goodOdds 37 = .ok (.bipush 29, 2) := by decide +kernel
theorem d_M_goodOdds_39 : decode b_M_goodOdds 39 = .ok (.iload 5, 2) := by decide +kernel
theorem d_M_goodOdds_41 : decode b_M_goodOdds 41 = .ok (.iadd, 1) := by decide +kernel
theorem d_M_goodOdds_42 : decode b_M_goodOdds 42 = .ok (.iaload, 1) := by decide +kernel
theorem d_M_goodOdds_43 : decode b_M_goodOdds 43 = .ok (.goto 4, 3) := by decide +kernel
theorem d_M_goodOdds_46 : decode b_M_goodOdds 46 = .ok (.iconst 0, 1) := by decide +kernel
theorem d_M_goodOdds_47 : decode b_M_goodOdds 47 = .ok (.iadd, 1) := by decide +kernel
theorem d_M_goodOdds_48 : decode b_M_goodOdds 48 = .ok (.istore 4, 2) := by decide +kernel
theorem d_M_goodOdds_50 : decode b_M_goodOdds 50 = .ok (.iinc 5 1, 3) := by decide +kernel
theorem d_M_goodOdds_53 : decode b_M_goodOdds 53 = .ok (.goto (-47), 3) := by decide +kernel
theorem d_M_goodOdds_56 : decode b_M_goodOdds 56 = .ok (.iload 4, 2) := by decide +kernel
theorem d_M_goodOdds_58 : decode b_M_goodOdds 58 = .ok (.ireturn, 1) := by decide +kernel
theorem d_M_chance_0 : decode b_M_chance 0 = .ok (.aload_n 0, 1) := by decide +kernel
theorem d_M_chance_1 : decode b_M_chance 1 = .ok (.iconst 0, 1) := by decide +kernel
theorem d_M_chance_2 : decode b_M_chance 2 = .ok (.putfield 1, 3) := by decide +kernel
theorem d_M_chance_5 : decode b_M_chance 5 = .ok (.iload_n 1, 1) := by decide +kernel
theorem d_M_chance_6 : decode b_M_chance 6 = .ok (.i2l, 1) := by decide +kernel
theorem d_M_chance_7 : decode b_M_chance 7 = .ok (.lconst 0, 1) := by decide +kernel
theorem d_M_chance_8 : decode b_M_chance 8 = .ok (.ldc2_w 67, 3) := by decide +kernel
theorem d_M_chance_11 : decode b_M_chance 11 = .ok (.invokestatic 57, 3) := by decide +kernel
theorem d_M_chance_14 : decode b_M_chance 14 = .ok (.ifCond .ne 8, 3) := by decide +kernel
theorem d_M_chance_17 : decode b_M_chance 17 = .ok (.aload_n 0, 1) := by decide +kernel
theorem d_M_chance_18 : decode b_M_chance 18 = .ok (.invokevirtual 77, 3) := by decide +kernel
theorem d_M_chance_21 : decode b_M_chance 21 = .ok (.ireturn, 1) := by decide +kernel
theorem d_M_chance_22 : decode b_M_chance 22 = .ok (.aload_n 0, 1) := by decide +kernel
theorem d_M_chance_23 : decode b_M_chance 23 = .ok (.invokevirtual 241, 3) := by decide +kernel
theorem d_M_chance_26 : decode b_M_chance 26 = .ok (.ifCond .ne 8, 3) := by decide +kernel
theorem d_M_chance_29 : decode b_M_chance 29 = .ok (.aload_n 0, 1) := by decide +kernel
theorem d_M_chance_30 : decode b_M_chance 30 = .ok (.invokevirtual 100, 3) := by decide +kernel
theorem d_M_chance_33 : decode b_M_chance 33 = .ok (.ireturn, 1) := by decide +kernel
theorem d_M_chance_34 : decode b_M_chance 34 = .ok (.aload_n 0, 1) := by decide +kernel
theorem d_M_chance_35 : decode b_M_chance 35 = .ok (.aload_n 0, 1) := by decide +kernel
theorem d_M_chance_36 : decode b_M_chance 36 = .ok (.iload_n 1, 1) := by decide +kernel
theorem d_M_chance_37 : decode b_M_chance 37 = .ok (.iconst 0, 1) := by decide +kernel
theorem d_M_chance_38 : decode b_M_chance 38 = .ok (.aload_n 0, 1) := by decide +kernel
theorem d_M_chance_39 : decode b_M_chance 39 = .ok (.getfield 21, 3) := by decide +kernel
theorem d_M_chance_42 : decode b_M_chance 42 = .ok (.iconst 3, 1) := by decide +kernel
theorem d_M_chance_43 : decode b_M_chance 43 = .ok (.iaload, 1) := by decide +kernel
theorem d_M_chance_44 : decode b_M_chance 44 = .ok (.invokevirtual 244, 3) := by decide +kernel
theorem d_M_chance_47 : decode b_M_chance 47 = .ok (.aload_n 0, 1) := by decide +kernel
theorem d_M_chance_48 : decode b_M_chance 48 = .ok (.invokevirtual 241, 3) := by decide +kernel
theorem d_M_chance_51 : decode b_M_chance 51 = .ok (.invokevirtual 247, 3) := by decide +kernel
theorem d_M_chance_54 : decode b_M_chance 54 = .ok (.iconst 1, 1) := by decide +kernel
theorem d_M_chance_55 : decode b_M_chance 55 = .ok (.ireturn, 1) := by decide +kernel
theorem d_M_turn_0 : decode b_M_turn 0 = .ok (.aload_n 0, 1) := by decide +kernel
theorem d_M_turn_1 : decode b_M_turn 1 = .ok (.iconst 0, 1) := by decide +kernel
theorem d_M_turn_2 : decode b_M_turn 2 = .ok (.putfield 1, 3) := by decide +kernel
theorem d_M_turn_5 : decode b_M_turn 5 = .ok (.iload_n 1, 1) := by decide +kernel
theorem d_M_turn_6 : decode b_M_turn 6 = .ok (.i2l, 1) := by decide +kernel
theorem d_M_turn_7 : decode b_M_turn 7 = .ok (.lconst 0, 1) := by decide +kernel
theorem d_M_turn_8 : decode b_M_turn 8 = .ok (.ldc2_w 67, 3) := by decide +kernel
theorem d_M_turn_11 : decode b_M_turn 11 = .ok (.invokestatic 57, 3) := by decide +kernel
theorem d_M_turn_14 : decode b_M_turn 14 = .ok (.ifCond .ne 8, 3) := by decide +kernel
theorem d_M_turn_17 : decode b_M_turn 17 = .ok (.aload_n 0, 1) := by decide +kernel
theorem d_M_turn_18 : decode b_M_turn 18 = .ok (.invokevirtual 77, 3) := by decide +kernel
theorem d_M_turn_21 : decode b_M_turn 21 = .ok (.ireturn, 1) := by decide +kernel
theorem d_M_turn_22 : decode b_M_turn 22 = .ok (.aload_n 0, 1) := by decide +kernel
theorem d_M_turn_23 : decode b_M_turn 23 = .ok (.invokevirtual 241, 3) := by decide +kernel
theorem d_M_turn_26 : decode b_M_turn 26 = .ok (.ifCond .ne 8, 3) := by decide +kernel
theorem d_M_turn_29 : decode b_M_turn 29 = .ok (.aload_n 0, 1) := by decide +kernel
theorem d_M_turn_30 : decode b_M_turn 30 = .ok (.invokevirtual 100, 3) := by decide +kernel
theorem d_M_turn_33 : decode b_M_turn 33 = .ok (.ireturn, 1) := by decide +kernel
theorem d_M_turn_34 : decode b_M_turn 34 = .ok (.iconst 0, 1) := by decide +kernel
theorem d_M_turn_35 : decode b_M_turn 35 = .ok (.istore_n 2, 1) := by decide +kernel
theorem d_M_turn_36 : decode b_M_turn 36 = .ok (.iconst (-1), 1) := by decide +kernel
theorem d_M_turn_37 : decode b_M_turn 37 = .ok (.istore_n 3, 1) := by decide +kernel
theorem d_M_turn_38 : decode b_M_turn 38 = .ok (.iconst 0, 1) := by decide +kernel
theorem d_M_turn_39 : decode b_M_turn 39 = .ok (.istore 4, 2) := by decide +kernel
theorem d_M_turn_41 : decode b_M_turn 41 = .ok (.iload 4, 2) := by decide +kernel
theorem d_M_turn_43 : decode b_M_turn 43 = .ok (.bipush 8, 2) := by decide +kernel
theorem d_M_turn_45 : decode b_M_turn 45 = .ok (.if_icmp .ge 50, 3) := by decide +kernel
theorem d_M_turn_48 : decode b_M_turn 48 = .ok (.aload_n 0, 1) := by decide +kernel
theorem d_M_turn_49 : decode b_M_turn 49 = .ok (.iload_n 1, 1) := by decide +kernel
theorem d_M_turn_50 : decode b_M_turn 50 = .ok (.iload 4, 2) := by decide +kernel
theorem d_M_turn_52 : decode b_M_turn 52 = .ok (.aload_n 0, 1) := by decide +kernel
theorem d_M_turn_53 : decode b_M_turn 53 = .ok (.getfield 21, 3) := by decide +kernel
theorem d_M_turn_56 : decode b_M_turn 56 = .ok (.iconst 3, 1) := by decide +kernel
theorem d_M_turn_57 : decode b_M_turn 57 = .ok (.iaload, 1) := by decide +kernel
theorem d_M_turn_58 : decode b_M_turn 58 = .ok (.invokevirtual 244, 3) := by decide +kernel
theorem d_M_turn_61 : decode b_M_turn 61 = .ok (.istore 5, 2) := by decide +kernel
theorem d_M_turn_63 : decode b_M_turn 63 = .ok (.iload 5, 2) := by decide +kernel
theorem d_M_turn_65 : decode b_M_turn 65 = .ok (.iload_n 3, 1) := by decide +kernel
theorem d_M_turn_66 : decode b_M_turn 66 = .ok (.if_icmp .le 8, 3) := by decide +kernel
theorem d_M_turn_69 : decode b_M_turn 69 = .ok (.iload 4, 2) := by decide +kernel
theorem d_M_turn_71 : decode b_M_turn 71 = .ok (.goto 4, 3) := by decide +kernel
theorem d_M_turn_74 : decode b_M_turn 74 = .ok (.iload_n 2, 1) := by decide +kernel
theorem d_M_turn_75 : decode b_M_turn 75 = .ok (.istore_n 2, 1) := by decide +kernel
theorem d_M_turn_76 : decode b_M_turn 76 = .ok (.iload 5, 2) := by decide +kernel
theorem d_M_turn_78 : decode b_M_turn 78 = .ok (.iload_n 3, 1) := by decide +kernel
theorem d_M_turn_79 : decode b_M_turn 79 = .ok (.if_icmp .le 8, 3) := by decide +kernel
theorem d_M_turn_82 : decode b_M_turn 82 = .ok (.iload 5, 2) := by decide +kernel
theorem d_M_turn_84 : decode b_M_turn 84 = .ok (.goto 4, 3) := by decide +kernel
theorem d_M_turn_87 : decode b_M_turn 87 = .ok (.iload_n 3, 1) := by decide +kernel
theorem d_M_turn_88 : decode b_M_turn 88 = .ok (.istore_n 3, 1) := by decide +kernel
theorem d_M_turn_89 : decode b_M_turn 89 = .ok (.iinc 4 1, 3) := by decide +kernel
theorem d_M_turn_92 : decode b_M_turn 92 = .ok (.goto (-51), 3) := by decide +kernel
theorem d_M_turn_95 : decode b_M_turn 95 = .ok (.aload_n 0, 1) := by decide +kernel
theorem d_M_turn_96 : decode b_M_turn 96 = .ok (.iload_n 3, 1) := by decide +kernel
theorem d_M_turn_97 : decode b_M_turn 97 = .ok (.aload_n 0, 1) := by decide +kernel
theorem d_M_turn_98 : decode b_M_turn 98 = .ok (.invokevirtual 241, 3) := by decide +kernel
theorem d_M_turn_101 : decode b_M_turn 101 = .ok (.invokevirtual 247, 3) := by decide +kernel
theorem d_M_turn_104 : decode b_M_turn 104 = .ok (.iload_n 2, 1) := by decide +kernel
theorem d_M_turn_105 : decode b_M_turn 105 = .ok (.ireturn, 1) := by decide +kernel
theorem d_M_worth_0 : decode b_M_worth 0 = .ok (.aload_n 0, 1) := by decide +kernel
theorem d_M_worth_1 : decode b_M_worth 1 = .ok (.iconst 0, 1) := by decide +kernel
theorem d_M_worth_2 : decode b_M_worth 2 = .ok (.putfield 1, 3) := by decide +kernel
theorem d_M_worth_5 : decode b_M_worth 5 = .ok (.iload_n 1, 1) := by decide +kernel
theorem d_M_worth_6 : decode b_M_worth 6 = .ok (.iload_n 2, 1) := by decide +kernel
theorem d_M_worth_7 : decode b_M_worth 7 = .ok (.invokestatic 205, 3) := by decide +kernel
theorem d_M_worth_10 : decode b_M_worth 10 = .ok (.ifCond .eq 8, 3) := by decide +kernel
theorem d_M_worth_13 : decode b_M_worth 13 = .ok (.aload_n 0, 1) := by decide +kernel
theorem d_M_worth_14 : decode b_M_worth 14 = .ok (.invokevirtual 77, 3) := by decide +kernel
theorem d_M_worth_17 : decode b_M_worth 17 = .ok (.ireturn, 1) := by decide +kernel
theorem d_M_worth_18 : decode b_M_worth 18 = .ok (.aload_n 0, 1) := by decide +kernel
theorem d_M_worth_19 : decode b_M_worth 19 = .ok (.invokevirtual 241, 3) := by decide +kernel
theorem d_M_worth_22 : decode b_M_worth 22 = .ok (.ifCond .ne 8, 3) := by decide +kernel
theorem d_M_worth_25 : decode b_M_worth 25 = .ok (.aload_n 0, 1) := by decide +kernel
theorem d_M_worth_26 : decode b_M_worth 26 = .ok (.invokevirtual 100, 3) := by decide +kernel
theorem d_M_worth_29 : decode b_M_worth 29 = .ok (.ireturn, 1) := by decide +kernel
theorem d_M_worth_30 : decode b_M_worth 30 = .ok (.aload_n 0, 1) := by decide +kernel
theorem d_M_worth_31 : decode b_M_worth 31 = .ok (.aload_n 0, 1) := by decide +kernel
theorem d_M_worth_32 : decode b_M_worth 32 = .ok (.iload_n 2, 1) := by decide +kernel
theorem d_M_worth_33 : decode b_M_worth 33 = .ok (.iconst 0, 1) := by decide +kernel
theorem d_M_worth_34 : decode b_M_worth 34 = .ok (.aload_n 0, 1) := by decide +kernel
theorem d_M_worth_35 : decode b_M_worth 35 = .ok (.getfield 21, 3) := by decide +kernel
theorem d_M_worth_38 : decode b_M_worth 38 = .ok (.iconst 3, 1) := by decide +kernel
theorem d_M_worth_39 : decode b_M_worth 39 = .ok (.iaload, 1) := by decide +kernel
theorem d_M_worth_40 : decode b_M_worth 40 = .ok (.iconst 1, 1) := by decide +kernel
theorem d_M_worth_41 : decode b_M_worth 41 = .ok (.iload_n 1, 1) := by decide +kernel
theorem d_M_worth_42 : decode b_M_worth 42 = .ok (.ishl, 1) := by decide +kernel
theorem d_M_worth_43 : decode b_M_worth 43 = .ok (.ior, 1) := by decide +kernel
theorem d_M_worth_44 : decode b_M_worth 44 = .ok (.invokevirtual 244, 3) := by decide +kernel
theorem d_M_worth_47 : decode b_M_worth 47 = .ok (.aload_n 0, 1) := by decide +kernel
theorem d_M_worth_48 : decode b_M_worth 48 = .ok (.iload_n 2, 1) := by decide +kernel
theorem d_M_worth_49 : decode b_M_worth 49 = .ok (.iconst 0, 1) := by decide +kernel
theorem d_M_worth_50 : decode b_M_worth 50 = .ok (.aload_n 0, 1) := by decide +kernel
theorem d_M_worth_51 : decode b_M_worth 51 = .ok (.getfield 21, 3) := by decide +kernel
theorem d_M_worth_54 : decode b_M_worth 54 = .ok (.iconst 3, 1) := by decide +kernel
theorem d_M_worth_55 : decode b_M_worth 55 = .ok (.iaload, 1) := by decide +kernel
theorem d_M_worth_56 : decode b_M_worth 56 = .ok (.invokevirtual 244, 3) := by decide +kernel
theorem d_M_worth_59 : decode b_M_worth 59 = .ok (.isub, 1) := by decide +kernel
theorem d_M_worth_60 : decode b_M_worth 60 = .ok (.aload_n 0, 1) := by decide +kernel
theorem d_M_worth_61 : decode b_M_worth 61 = .ok (.invokevirtual 241, 3) := by decide +kernel
theorem d_M_worth_64 : decode b_M_worth 64 = .ok (.invokevirtual 247, 3) := by decide +kernel
theorem d_M_worth_67 : decode b_M_worth 67 = .ok (.iconst 1, 1) := by decide +kernel
theorem d_M_worth_68 : decode b_M_worth 68 = .ok (.ireturn, 1) := by decide +kernel
theorem d_M_part_0 : decode b_M_part 0 = .ok (.aload_n 0, 1) := by decide +kernel
theorem d_M_part_1 : decode b_M_part 1 = .ok (.iconst 0, 1) := by decide +kernel
theorem d_M_part_2 : decode b_M_part 2 = .ok (.putfield 1, 3) := by decide +kernel
theorem d_M_part_5 : decode b_M_part 5 = .ok (.iload_n 1, 1) := by decide +kernel
theorem d_M_part_6 : decode b_M_part 6 = .ok (.ifCond .ne 10, 3) := by decide +kernel
theorem d_M_part_9 : decode b_M_part 9 = .ok (.aload_n 0, 1) := by decide +kernel
theorem d_M_part_10 : decode b_M_part 10 = .ok (.getfield 238, 3) := by decide +kernel
theorem d_M_part_13 : decode b_M_part 13 = .ok (.goto 23, 3) := by decide +kernel
theorem d_M_part_16 : decode b_M_part 16 = .ok (.iload_n 1, 1) := by decide +kernel
theorem d_M_part_17 : decode b_M_part 17 = .ok (.iconst 1, 1) := by decide +kernel
theorem d_M_part_18 : decode b_M_part 18 = .ok (.if_icmp .ne 10, 3) := by decide +kernel
theorem d_M_part_21 : decode b_M_part 21 = .ok (.aload_n 0, 1) := by decide +kernel
theorem d_M_part_22 : decode b_M_part 22 = .ok (.getfield 46, 3) := by decide +kernel
theorem d_M_part_25 : decode b_M_part 25 = .ok (.goto 11, 3) := by decide +kernel
theorem d_M_part_28 : decode b_M_part 28 = .ok (.aload_n 0, 1) := by decide +kernel
theorem d_M_part_29 : decode b_M_part 29 = .ok (.iconst 0, 1) := by decide +kernel
theorem d_M_part_30 : decode b_M_part 30 = .ok (.ldc 251, 2) := by decide +kernel
theorem d_M_part_32 : decode b_M_part 32 = .ok (.invokevirtual 11, 3) := by decide +kernel
theorem d_M_part_35 : decode b_M_part 35 = .ok (.i2l, 1) := by decide +kernel
theorem d_M_part_36 : decode b_M_part 36 = .ok (.lreturn, 1) := by decide +kernel
theorem d_M_isBorne_0 : decode b_M_isBorne 0 = .ok (.iload_n 1, 1) := by decide +kernel
theorem d_M_isBorne_1 : decode b_M_isBorne 1 = .ok (.invokestatic 69, 3) := by decide +kernel
theorem d_M_isBorne_4 : decode b_M_isBorne 4 = .ok (.istore 5, 2) := by decide +kernel
theorem d_M_isBorne_6 : decode b_M_isBorne 6 = .ok (.iload 5, 2) := by decide +kernel
theorem d_M_isBorne_8 : decode b_M_isBorne 8 = .ok (.iload_n 2, 1) := by decide +kernel
theorem d_M_isBorne_9 : decode b_M_isBorne 9 = .ok (.irem, 1) := by decide +kernel
theorem d_M_isBorne_10 : decode b_M_isBorne 10 = .ok (.ifCond .eq 14, 3) := by decide +kernel
theorem d_M_isBorne_13 : decode b_M_isBorne 13 = .ok (.iload 5, 2) := by decide +kernel
theorem d_M_isBorne_15 : decode b_M_isBorne 15 = .ok (.aload_n 0, 1) := by decide +kernel
theorem d_M_isBorne_16 : decode b_M_isBorne 16 = .ok (.getfield 21, 3) := by decide +kernel
theorem d_M_isBorne_19 : decode b_M_isBorne 19 = .ok (.iconst 0, 1) := by decide +kernel
theorem d_M_isBorne_20 : decode b_M_isBorne 20 = .ok (.iaload, 1) := by decide +kernel
theorem d_M_isBorne_21 : decode b_M_isBorne 21 = .ok (.if_icmp .ne 7, 3) := by decide +kernel
theorem d_M_isBorne_24 : decode b_M_isBorne 24 = .ok (.iconst 1, 1) := by decide +kernel
theorem d_M_isBorne_25 : decode b_M_isBorne 25 = .ok (.goto 4, 3) := by decide +kernel
theorem d_M_isBorne_28 : decode b_M_isBorne 28 = .ok (.iconst 0, 1) := by decide +kernel
theorem d_M_isBorne_29 : decode b_M_isBorne 29 = .ok (.istore 6, 2) := by decide +kernel
theorem d_M_isBorne_31 : decode b_M_isBorne 31 = .ok (.iload 6, 2) := by decide +kernel
theorem d_M_isBorne_33 : decode b_M_isBorne 33 = .ok (.ifCond .eq 27, 3) := by decide +kernel
theorem d_M_isBorne_36 : decode b_M_isBorne 36 = .ok (.iload 5, 2) := by decide +kernel
theorem d_M_isBorne_38 : decode b_M_isBorne 38 = .ok (.iconst 1, 1) := by decide +kernel
theorem d_M_isBorne_39 : decode b_M_isBorne 39 = .ok (.if_icmp .le 25, 3) := by decide +kernel
theorem d_M_isBorne_42 : decode b_M_isBorne 42 = .ok (.aload_n 0, 1) := by decide +kernel
theorem d_M_isBorne_43 : decode b_M_isBorne 43 = .ok (.iload_n 1, 1) := by decide +kernel
theorem d_M_isBorne_44 : decode b_M_isBorne 44 = .ok (.iload_n 3, 1) := by decide +kernel
theorem d_M_isBorne_45 : decode b_M_isBorne 45 = .ok (.iload 4, 2) := by decide +kernel
theorem d_M_isBorne_47 : decode b_M_isBorne 47 = .ok (.iconst 0, 1) := by decide +kernel
theorem d_M_isBorne_48 : decode b_M_isBorne 48 = .ok (.aload_n 0, 1) := by decide +kernel
theorem d_M_isBorne_49 : decode b_M_isBorne 49 = .ok (.getfield 21, 3) := by decide +kernel
theorem d_M_isBorne_52 : decode b_M_isBorne 52 = .ok (.iconst 3, 1) := by decide +kernel
theorem d_M_isBorne_53 : decode b_M_isBorne 53 = .ok (.iaload, 1) := by decide +kernel
theorem d_M_isBorne_54 : decode b_M_isBorne 54 = .ok (.invokevirtual 192, 3) := by decide +kernel
theorem d_M_isBorne_57 : decode b_M_isBorne 57 = .ok (.ifCond .eq 7, 3) := by decide +kernel
theorem d_M_isBorne_60 : decode b_M_isBorne 60 = .ok (.iconst 1, 1) := by decide +kernel
theorem d_M_isBorne_61 : decode b_M_isBorne 61 = .ok (.goto 4, 3) := by decide +kernel
theorem d_M_isBorne_64 : decode b_M_isBorne 64 = .ok (.iconst 0, 1) := by decide +kernel
theorem d_M_isBorne_65 : decode b_M_isBorne 65 = .ok (.ireturn, 1) := by decide +kernel
theorem d_M_setUp_0 : decode b_M_setUp 0 = .ok (.aload_n 0, 1) := by decide +kernel
theorem d_M_setUp_1 : decode b_M_setUp 1 = .ok (.iconst 0, 1) := by decide +kernel
theorem d_M_setUp_2 : decode b_M_setUp 2 = .ok (.putfield 1, 3) := by decide +kernel
theorem d_M_setUp_5 : decode b_M_setUp 5 = .ok (.iload_n 1, 1) := by decide +kernel
theorem d_M_setUp_6 : decode b_M_setUp 6 = .ok (.i2l, 1) := by decide +kernel
theorem d_M_setUp_7 : decode b_M_setUp 7 = .ok (.lconst 1, 1) := by decide +kernel
theorem d_M_setUp_8 : decode b_M_setUp 8 = .ok (.ldc2_w 252, 3) := by decide +kernel
theorem d_M_setUp_11 : decode b_M_setUp 11 = .ok (.invokestatic 57, 3) := by decide +kernel
theorem d_M_setUp_14 : decode b_M_setUp 14 = .ok (.ifCond .eq 17, 3) := by decide +kernel
theorem d_M_setUp_17 : decode b_M_setUp 17 = .ok (.iload_n 2, 1) := by decide +kernel
theorem d_M_setUp_18 : decode b_M_setUp 18 = .ok (.iload_n 3, 1) := by decide +kernel
theorem d_M_setUp_19 : decode b_M_setUp 19 = .ok (.invokestatic 205, 3) := by decide +kernel
theorem d_M_setUp_22 : decode b_M_setUp 22 = .ok (.ifCond .ne 9, 3) := by decide +kernel
theorem d_M_setUp_25 : decode b_M_setUp 25 = .ok (.iload 4, 2) := by decide +kernel
theorem d_M_setUp_27 : decode b_M_setUp 27 = .ok (.iconst (-1), 1) := by decide +kernel
theorem d_M_setUp_28 : decode b_M_setUp 28 = .ok (.if_icmp .ge 8, 3) := by decide +kernel
theorem d_M_setUp_31 : decode b_M_setUp 31 = .ok (.aload_n 0, 1) := by decide +kernel
theorem d_M_setUp_32 : decode b_M_setUp 32 = .ok (.invokevirtual 220, 3) := by decide +kernel
theorem d_M_setUp_35 : decode b_M_setUp 35 = .ok (.ireturn, 1) := by decide +kernel
theorem d_M_setUp_36 : decode b_M_setUp 36 = .ok (.iconst 1, 1) := by decide +kernel
theorem d_M_setUp_37 : decode b_M_setUp 37 = .ok (.aload_n 0, 1) := by decide +kernel
theorem d_M_setUp_38 : decode b_M_setUp 38 = .ok (.getfield 21, 3) := by decide +kernel
theorem d_M_setUp_41 : decode b_M_setUp 41 = .ok (.iconst 0, 1) := by decide +kernel
theorem d_M_setUp_42 : decode b_M_setUp 42 = .ok (.iaload, 1) := by decide +kernel
theorem d_M_setUp_43 : decode b_M_setUp 43 = .ok (.ishl, 1) := by decide +kernel
theorem d_M_setUp_44 : decode b_M_setUp 44 = .ok (.iconst 1, 1) := by decide +kernel
theorem d_M_setUp_45 : decode b_M_setUp 45 = .ok (.isub, 1) := by decide +kernel
theorem d_M_setUp_46 : decode b_M_setUp 46 = .ok (.istore 5, 2) := by decide +kernel
theorem d_M_setUp_48 : decode b_M_setUp 48 = .ok (.aload_n 0, 1) := by decide +kernel
theorem d_M_setUp_49 : decode b_M_setUp 49 = .ok (.getfield 50, 3) := by decide +kernel
theorem d_M_setUp_52 : decode b_M_setUp 52 = .ok (.iload 5, 2) := by decide +kernel
theorem d_M_setUp_54 : decode b_M_setUp 54 = .ok (.iconst 1, 1) := by decide +kernel
theorem d_M_setUp_55 : decode b_M_setUp 55 = .ok (.iastore, 1) := by decide +kernel
theorem d_M_setUp_56 : decode b_M_setUp 56 = .ok (.iload 5, 2) := by decide +kernel
theorem d_M_setUp_58 : decode b_M_setUp 58 = .ok (.iconst 1, 1) := by decide +kernel
theorem d_M_setUp_59 : decode b_M_setUp 59 = .ok (.isub, 1) := by decide +kernel
theorem d_M_setUp_60 : decode b_M_setUp 60 = .ok (.istore 6, 2) := by decide +kernel
theorem d_M_setUp_62 : decode b_M_setUp 62 = .ok (.iload 6, 2) := by decide +kernel
theorem d_M_setUp_64 : decode b_M_setUp 64 = .ok (.ifCond .lt 90, 3) := by decide +kernel
theorem d_M_setUp_67 : decode b_M_setUp 67 = .ok (.aload_n 0, 1) := by decide +kernel
theorem d_M_setUp_68 : decode b_M_setUp 68 = .ok (.getfield 50, 3) := by decide +kernel
theorem d_M_setUp_71 : decode b_M_setUp 71 = .ok (.iload 6, 2) := by decide +kernel
theorem d_M_setUp_73 : decode b_M_setUp 73 = .ok (.iconst 0, 1) := by decide +kernel
theorem d_M_setUp_74 : decode b_M_setUp 74 = .ok (.iastore, 1) := by decide +kernel
theorem d_M_setUp_75 : decode b_M_setUp 75 = .ok (.iconst 0, 1) := by decide +kernel
theorem d_M_setUp_76 : decode b_M_setUp 76 = .ok (.istore 7, 2) := by decide +kernel
theorem d_M_setUp_78 : decode b_M_setUp 78 = .ok (.iload 7, 2) := by decide +kernel
theorem d_M_setUp_80 : decode b_M_setUp 80 = .ok (.aload_n 0, 1) := by decide +kernel
theorem d_M_setUp_81 : decode b_M_setUp 81 = .ok (.getfield 21, 3) := by decide +kernel
theorem d_M_setUp_84 : decode b_M_setUp 84 = .ok (.iconst 0, 1) := by decide +kernel
theorem d_M_setUp_85 : decode b_M_setUp 85 = .ok (.iaload, 1) := by decide +kernel
theorem d_M_setUp_86 : decode b_M_setUp 86 = .ok (.if_icmp .ge 62, 3) := by decide +kernel
theorem d_M_setUp_89 : decode b_M_setUp 89 = .ok (.aload_n 0, 1) := by decide +kernel
theorem d_M_setUp_90 : decode b_M_setUp 90 = .ok (.getfield 50, 3) := by decide +kernel
theorem d_M_setUp_93 : decode b_M_setUp 93 = .ok (.iload 6, 2) := by decide +kernel
theorem d_M_setUp_95 : decode b_M_setUp 95 = .ok (.dup2, 1) := by decide +kernel
theorem d_M_setUp_96 : decode b_M_setUp 96 = .ok (.iaload, 1) := by decide +kernel
theorem d_M_setUp_97 : decode b_M_setUp 97 = .ok (.iload 6, 2) := by decide +kernel
theorem d_M_setUp_99 : decode b_M_setUp 99 = .ok (.iload 7, 2) := by decide +kernel
theorem d_M_setUp_101 : decode b_M_setUp 101 = .ok (.invokestatic 96, 3) := by decide +kernel
theorem d_M_setUp_104 : decode b_M_setUp 104 = .ok (.ifCond .ne 35, 3) := by decide +kernel
theorem d_M_setUp_107 : decode b_M_setUp 107 = .ok (.aload_n 0, 1) := by decide +kernel
theorem d_M_setUp_108 : decode b_M_setUp 108 = .ok (.iload 6, 2) := by decide +kernel
theorem d_M_setUp_110 : decode b_M_setUp 110 = .ok (.iconst 1, 1) := by decide +kernel
theorem d_M_setUp_111 : decode b_M_setUp 111 = .ok (.iload 7, 2) := by decide +kernel
theorem d_M_setUp_113 : decode b_M_setUp 113 = .ok (.ishl, 1) := by decide +kernel
theorem d_M_setUp_114 : decode b_M_setUp 114 = .ok (.ior, 1) := by decide +kernel
theorem d_M_setUp_115 : decode b_M_setUp 115 = .ok (.iload_n 1, 1) := by decide +kernel
theorem d_M_setUp_116 : decode b_M_setUp 116 = .ok (.iload_n 2, 1) := by decide +kernel
theorem d_M_setUp_117 : decode b_M_setUp 117 = .ok (.iload_n 3, 1) := by decide +kernel
theorem d_M_setUp_118 : decode b_M_setUp 118 = .ok (.invokevirtual 254, 3) := by decide +kernel
theorem d_M_setUp_121 : decode b_M_setUp 121 = .ok (.ifCond .eq 18, 3) := by decide +kernel
theorem d_M_setUp_124 : decode b_M_setUp 124 = .ok (.aload_n 0, 1) := by decide +kernel
theorem d_M_setUp_125 : decode b_M_setUp 125 = .ok (.getfield 50, 3) := by decide +kernel
theorem d_M_setUp_128 : decode b_M_setUp 128 = .ok (.iload 6, 2) := by decide +kernel
theorem d_M_setUp_130 : decode b_M_setUp 130 = .ok (.iconst 1, 1) := by decide +kernel
theorem d_M_setUp_131 : decode b_M_setUp 131 = .ok (.iload 7, 2) := by decide +kernel
theorem d_M_setUp_133 : decode b_M_setUp 133 = .ok (.ishl, 1) := by decide +kernel
theorem d_M_setUp_134 : decode b_M_setUp 134 = .ok (.ior, 1) := by decide +kernel
theorem d_M_setUp_135 : decode b_M_setUp 135 = .ok (.iaload, 1) := by decide +kernel
theorem d_M_setUp_136 : decode b_M_setUp 136 = .ok (.goto 4, 3) := by decide +kernel
theorem d_M_setUp_139 : decode b_M_setUp 139 = .ok (.iconst 0, 1) := by decide +kernel
theorem d_M_setUp_140 : decode b_M_setUp 140 = .ok (.iadd, 1) := by decide +kernel
theorem d_M_setUp_141 : decode b_M_setUp 141 = .ok (.iastore, 1) := by decide +kernel
theorem d_M_setUp_142 : decode b_M_setUp 142 = .ok (.iinc 7 1, 3) := by decide +kernel
theorem d_M_setUp_145 : decode b_M_setUp 145 = .ok (.goto (-67), 3) := by decide +kernel
theorem d_M_setUp_148 : decode b_M_setUp 148 = .ok (.iinc 6 (-1), 3) := by decide +kernel
theorem d_M_setUp_151 : decode b_M_setUp 151 = .ok (.goto (-89), 3) := by decide +kernel
theorem d_M_setUp_154 : decode b_M_setUp 154 = .ok (.iload 4, 2) := by decide +kernel
theorem d_M_setUp_156 : decode b_M_setUp 156 = .ok (.iconst (-1), 1) := by decide +kernel
theorem d_M_setUp_157 : decode b_M_setUp 157 = .ok (.if_icmp .eq 12, 3) := by decide +kernel
theorem d_M_setUp_160 : decode b_M_setUp 160 = .ok (.aload_n 0, 1) := by decide +kernel
theorem d_M_setUp_161 : decode b_M_setUp 161 = .ok (.getfield 50, 3) := by decide +kernel
theorem d_M_setUp_164 : decode b_M_setUp 164 = .ok (.iconst 0, 1) := by decide +kernel
theorem d_M_setUp_165 : decode b_M_setUp 165 = .ok (.iaload, 1) := by decide +kernel
theorem d_M_setUp_166 : decode b_M_setUp 166 = .ok (.ifCond .ne 20, 3) := by decide +kernel
theorem d_M_setUp_169 : decode b_M_setUp 169 = .ok (.iload 4, 2) := by decide +kernel
theorem d_M_setUp_171 : decode b_M_setUp 171 = .ok (.iconst (-1), 1) := by decide +kernel
theorem d_M_setUp_172 : decode b_M_setUp 172 = .ok (.if_icmp .ne 12, 3) := by decide +kernel
theorem d_M_setUp_175 : decode b_M_setUp 175 = .ok (.aload_n 0, 1) := by decide +kernel
theorem d_M_setUp_176 : decode b_M_setUp 176 = .ok (.getfield 50, 3) := by decide +kernel
theorem d_M_setUp_179 : decode b_M_setUp 179 = .ok (.iconst 0, 1) := by decide +kernel
theorem d_M_setUp_180 : decode b_M_setUp 180 = .ok (.iaload, 1) := by decide +kernel
theorem d_M_setUp_181 : decode b_M_setUp 181 = .ok (.goto 4, 3) := by decide +kernel
theorem d_M_setUp_184 : decode b_M_setUp 184 = .ok (.iconst (-1), 1) := by decide +kernel
theorem d_M_setUp_185 : decode b_M_setUp 185 = .ok (.ireturn, 1) := by decide +kernel
theorem d_M_setUp_186 : decode b_M_setUp 186 = .ok (.iload 4, 2) := by decide +kernel
theorem d_M_setUp_188 : decode b_M_setUp 188 = .ok (.aload_n 0, 1) := by decide +kernel
theorem d_M_setUp_189 : decode b_M_setUp 189 = .ok (.getfield 21, 3) := by decide +kernel
theorem d_M_setUp_192 : decode b_M_setUp 192 = .ok (.iconst 0, 1) := by decide +kernel
theorem d_M_setUp_193 : decode b_M_setUp 193 = .ok (.iaload, 1) := by decide +kernel
theorem d_M_setUp_194 : decode b_M_setUp 194 = .ok (.if_icmp .lt 6, 3) := by decide +kernel
theorem d_M_setUp_197 : decode b_M_setUp 197 = .ok (.bipush (-5), 2) := by decide +kernel
theorem d_M_setUp_199 : decode b_M_setUp 199 = .ok (.ireturn, 1) := by decide +kernel
theorem d_M_setUp_200 : decode b_M_setUp 200 = .ok (.iconst 0, 1) := by decide +kernel
theorem d_M_setUp_201 : decode b_M_setUp 201 = .ok (.istore 6, 2) := by decide +kernel
theorem d_M_setUp_203 : decode b_M_setUp 203 = .ok (.iconst (-1), 1) := by decide +kernel
theorem d_M_setUp_204 : decode b_M_setUp 204 = .ok (.istore 7, 2) := by decide +kernel
theorem d_M_setUp_206 : decode b_M_setUp 206 = .ok (.iconst 0, 1) := by decide +kernel
theorem d_M_setUp_207 : decode b_M_setUp 207 = .ok (.istore 8, 2) := by decide +kernel
theorem d_M_setUp_209 : decode b_M_setUp 209 = .ok (.iload 8, 2) := by decide +kernel
theorem d_M_setUp_211 : decode b_M_setUp 211 = .ok (.iload 4, 2) := by decide +kernel
theorem d_M_setUp_213 : decode b_M_setUp 213 = .ok (.if_icmp .gt 69, 3) := by decide +kernel
theorem d_M_setUp_216 : decode b_M_setUp 216 = .ok (.iconst 0, 1) := by decide +kernel
theorem d_M_setUp_217 : decode b_M_setUp 217 = .ok (.istore 7, 2) := by decide +kernel
theorem d_M_setUp_219 : decode b_M_setUp 219 = .ok (.iload 6, 2) := by decide +kernel
theorem d_M_setUp_221 : decode b_M_setUp 221 = .ok (.iload 7, 2) := by decide +kernel
theorem d_M_setUp_223 : decode b_M_setUp 223 = .ok (.invokestatic 96, 3) := by decide +kernel
theorem d_M_setUp_226 : decode b_M_setUp 226 = .ok (.ifCond .ne 35, 3) := by decide +kernel
theorem d_M_setUp_229 : decode b_M_setUp 229 = .ok (.aload_n 0, 1) := by decide +kernel
theorem d_M_setUp_230 : decode b_M_setUp 230 = .ok (.iload 6, 2) := by decide +kernel
theorem d_M_setUp_232 : decode b_M_setUp 232 = .ok (.iconst 1, 1) := by decide +kernel
theorem d_M_setUp_233 : decode b_M_setUp 233 = .ok (.iload 7, 2) := by decide +kernel
theorem d_M_setUp_235 : decode b_M_setUp 235 = .ok (.ishl, 1) := by decide +kernel
theorem d_M_setUp_236 : decode b_M_setUp 236 = .ok (.ior, 1) := by decide +kernel
theorem d_M_setUp_237 : decode b_M_setUp 237 = .ok (.iload_n 1, 1) := by decide +kernel
theorem d_M_setUp_238 : decode b_M_setUp 238 = .ok (.iload_n 2, 1) := by decide +kernel
theorem d_M_setUp_239 : decode b_M_setUp 239 = .ok (.iload_n 3, 1) := by decide +kernel
theorem d_M_setUp_240 : decode b_M_setUp 240 = .ok (.invokevirtual 254, 3) := by decide +kernel
theorem d_M_setUp_243 : decode b_M_setUp 243 = .ok (.ifCond .eq 18, 3) := by decide +kernel
theorem d_M_setUp_246 : decode b_M_setUp 246 = .ok (.aload_n 0, 1) := by decide +kernel
theorem d_M_setUp_247 : decode b_M_setUp 247 = .ok (.getfield 50, 3) := by decide +kernel
theorem d_M_setUp_250 : decode b_M_setUp 250 = .ok (.iload 6, 2) := by decide +kernel
theorem d_M_setUp_252 : decode b_M_setUp 252 = .ok (.iconst 1, 1) := by decide +kernel
theorem d_M_setUp_253 : decode b_M_setUp 253 = .ok (.iload 7, 2) := by decide +kernel
theorem d_M_setUp_255 : decode b_M_setUp 255 = .ok (.ishl, 1) := by decide +kernel
theorem d_M_setUp_256 : decode b_M_setUp 256 = .ok (.ior, 1) := by decide +kernel
theorem d_M_setUp_257 : decode b_M_setUp 257 = .ok (.iaload, 1) := by decide +kernel
theorem d_M_setUp_258 : decode b_M_setUp 258 = .ok (.ifCond .ne 9, 3) := by decide +kernel
theorem d_M_setUp_261 : decode b_M_setUp 261 = .ok (.iinc 7 1, 3) := by decide +kernel
theorem d_M_setUp_264 : decode b_M_setUp 264 = .ok (.goto (-45), 3) := by decide +kernel
theorem d_M_setUp_267 : decode b_M_setUp 267 = .ok (.iload 6, 2) := by decide +kernel
theorem d_M_setUp_269 : decode b_M_setUp 269 = .ok (.iconst 1, 1) := by decide +kernel
theorem d_M_setUp_270 : decode b_M_setUp 270 = .ok (.iload 7, 2) := by decide +kernel
theorem d_M_setUp_272 : decode b_M_setUp 272 = .ok (.ishl, 1) := by decide +kernel
theorem d_M_setUp_273 : decode b_M_setUp 273 = .ok (.ior, 1) := by decide +kernel
theorem d_M_setUp_274 : decode b_M_setUp 274 = .ok (.istore 6, 2) := by decide +kernel
theorem d_M_setUp_276 : decode b_M_setUp 276 = .ok (.iinc 8 1, 3) := by decide +kernel
theorem d_M_setUp_279 : decode b_M_setUp 279 = .ok (.goto (-70), 3) := by decide +kernel
theorem d_M_setUp_282 : decode b_M_setUp 282 = .ok (.iload 7, 2) := by decide +kernel
theorem d_M_setUp_284 : decode b_M_setUp 284 = .ok (.ireturn, 1) := by decide +kernel
theorem d_M_morning_0 : decode b_M_morning 0 = .ok (.aload_n 0, 1) := by decide +kernel
theorem d_M_morning_1 : decode b_M_morning 1 = .ok (.iconst 0, 1) := by decide +kernel
theorem d_M_morning_2 : decode b_M_morning 2 = .ok (.putfield 1, 3) := by decide +kernel
theorem d_M_morning_5 : decode b_M_morning 5 = .ok (.iload_n 1, 1) := by decide +kernel
theorem d_M_morning_6 : decode b_M_morning 6 = .ok (.i2l, 1) := by decide +kernel
theorem d_M_morning_7 : decode b_M_morning 7 = .ok (.lconst 0, 1) := by decide +kernel
theorem d_M_morning_8 : decode b_M_morning 8 = .ok (.iconst 1, 1) := by decide +kernel
theorem d_M_morning_9 : decode b_M_morning 9 = .ok (.aload_n 0, 1) := by decide +kernel
theorem d_M_morning_10 : decode b_M_morning 10 = .ok (.getfield 21, 3) := by decide +kernel
theorem d_M_morning_13 : decode b_M_morning 13 = .ok (.iconst 0, 1) := by decide +kernel
theorem d_M_morning_14 : decode b_M_morning 14 = .ok (.iaload, 1) := by decide +kernel
theorem d_M_morning_15 : decode b_M_morning 15 = .ok (.ishl, 1) := by decide +kernel
theorem d_M_morning_16 : decode b_M_morning 16 = .ok (.iconst 1, 1) := by decide +kernel
theorem d_M_morning_17 : decode b_M_morning 17 = .ok (.isub, 1) := by decide +kernel
theorem d_M_morning_18 : decode b_M_morning 18 = .ok (.i2l, 1) := by decide +kernel
theorem d_M_morning_19 : decode b_M_morning 19 = .ok (.invokestatic 57, 3) := by decide +kernel
theorem d_M_morning_22 : decode b_M_morning 22 = .ok (.ifCond .eq 26, 3) := by decide +kernel
theorem d_M_morning_25 : decode b_M_morning 25 = .ok (.iload_n 1, 1) := by decide +kernel
theorem d_M_morning_26 : decode b_M_morning 26 = .ok (.aload_n 0, 1) := by decide +kernel
theorem d_M_morning_27 : decode b_M_morning 27 = .ok (.getfield 21, 3) := by decide +kernel
theorem d_M_morning_30 : decode b_M_morning 30 = .ok (.iconst 1, 1) := by decide +kernel
theorem d_M_morning_31 : decode b_M_morning 31 = .ok (.iaload, 1) := by decide +kernel
theorem d_M_morning_32 : decode b_M_morning 32 = .ok (.iconst (-1), 1) := by decide +kernel
theorem d_M_morning_33 : decode b_M_morning 33 = .ok (.ixor, 1) := by decide +kernel
theorem d_M_morning_34 : decode b_M_morning 34 = .ok (.iand, 1) := by decide +kernel
theorem d_M_morning_35 : decode b_M_morning 35 = .ok (.ifCond .ne 13, 3) := by decide +kernel
theorem d_M_morning_38 : decode b_M_morning 38 = .ok (.iload_n 2, 1) := by decide +kernel
theorem d_M_morning_39 : decode b_M_morning 39 = .ok (.i2l, 1) := by decide +kernel
theorem d_M_morning_40 : decode b_M_morning 40 = .ok (.lconst 0, 1) := by decide +kernel
theorem d_M_morning_41 : decode b_M_morning 41 = .ok (.lconst 1, 1) := by decide +kernel
theorem d_M_morning_42 : decode b_M_morning 42 = .ok (.invokestatic 57, 3) := by decide +kernel
theorem d_M_morning_45 : decode b_M_morning 45 = .ok (.ifCond .ne 8, 3) := by decide +kernel
theorem d_M_morning_48 : decode b_M_morning 48 = .ok (.aload_n 0, 1) := by decide +kernel
theorem d_M_morning_49 : decode b_M_morning 49 = .ok (.invokevirtual 220, 3) := by decide +kernel
theorem d_M_morning_52 : decode b_M_morning 52 = .ok (.ireturn, 1) := by decide +kernel
theorem d_M_morning_53 : decode b_M_morning 53 = .ok (.iconst 0, 1) := by decide +kernel
theorem d_M_morning_54 : decode b_M_morning 54 = .ok (.istore_n 3, 1) := by decide +kernel
theorem d_M_morning_55 : decode b_M_morning 55 = .ok (.iconst (-1), 1) := by decide +kernel
theorem d_M_morning_56 : decode b_M_morning 56 = .ok (.istore 4, 2) := by decide +kernel
theorem d_M_morning_58 : decode b_M_morning 58 = .ok (.iconst 0, 1) := by decide +kernel
theorem d_M_morning_59 : decode b_M_morning 59 = .ok (.istore 5, 2) := by decide +kernel
theorem d_M_morning_61 : decode b_M_morning 61 = .ok (.iload 5, 2) := by decide +kernel
theorem d_M_morning_63 : decode b_M_morning 63 = .ok (.bipush 8, 2) := by decide +kernel
theorem d_M_morning_65 : decode b_M_morning 65 = .ok (.if_icmp .ge 96, 3) := by decide +kernel
theorem d_M_morning_68 : decode b_M_morning 68 = .ok (.iconst 0, 1) := by decide +kernel
theorem d_M_morning_69 : decode b_M_morning 69 = .ok (.istore 6, 2) := by decide +kernel
theorem d_M_morning_71 : decode b_M_morning 71 = .ok (.iload 6, 2) := by decide +kernel
theorem d_M_morning_73 : decode b_M_morning 73 = .ok (.bipush 60, 2) := by decide +kernel
theorem d_M_morning_75 : decode b_M_morning 75 = .ok (.if_icmp .gt 80, 3) := by decide +kernel
theorem d_M_morning_78 : decode b_M_morning 78 = .ok (.aload_n 0, 1) := by decide +kernel
theorem d_M_morning_79 : decode b_M_morning 79 = .ok (.aload_n 0, 1) := by decide +kernel
theorem d_M_morning_80 : decode b_M_morning 80 = .ok (.getfield 21, 3) := by decide +kernel
theorem d_M_morning_83 : decode b_M_morning 83 = .ok (.iconst 1, 1) := by decide +kernel
theorem d_M_morning_84 : decode b_M_morning 84 = .ok (.iaload, 1) := by decide +kernel
theorem d_M_morning_85 : decode b_M_morning 85 = .ok (.iload 5, 2) := by decide +kernel
theorem d_M_morning_87 : decode b_M_morning 87 = .ok (.iload 6, 2) := by decide +kernel
theorem d_M_morning_89 : decode b_M_morning 89 = .ok (.invokevirtual 214, 3) := by decide +kernel
theorem d_M_morning_92 : decode b_M_morning 92 = .ok (.aload_n 0, 1) := by decide +kernel
theorem d_M_morning_93 : decode b_M_morning 93 = .ok (.getfield 21, 3) := by decide +kernel
theorem d_M_morning_96 : decode b_M_morning 96 = .ok (.iconst 1, 1) := by decide +kernel
theorem d_M_morning_97 : decode b_M_morning 97 = .ok (.iaload, 1) := by decide +kernel
theorem d_M_morning_98 : decode b_M_morning 98 = .ok (.iload_n 1, 1) := by decide +kernel
theorem d_M_morning_99 : decode b_M_morning 99 = .ok (.iconst (-1), 1) := by decide +kernel
theorem d_M_morning_100 : decode b_M_morning 100 = .ok (.ixor, 1) := by decide +kernel
theorem d_M_morning_101 : decode b_M_morning 101 = .ok (.iand, 1) := by decide +kernel
theorem d_M_morning_102 : decode b_M_morning 102 = .ok (.if_icmp .ne 7, 3) := by decide +kernel
theorem d_M_morning_105 : decode b_M_morning 105 = .ok (.iconst 1, 1) := by decide +kernel
theorem d_M_morning_106 : decode b_M_morning 106 = .ok (.goto 4, 3) := by decide +kernel
theorem d_M_morning_109 : decode b_M_morning 109 = .ok (.iconst 0, 1) := by decide +kernel
theorem d_M_morning_110 : decode b_M_morning 110 = .ok (.istore 7, 2) := by decide +kernel
theorem d_M_morning_112 : decode b_M_morning 112 = .ok (.iload 7, 2) := by decide +kernel
theorem d_M_morning_114 : decode b_M_morning 114 = .ok (.ifCond .eq 18, 3) := by decide +kernel
theorem d_M_morning_117 : decode b_M_morning 117 = .ok (.iload_n 3, 1) := by decide +kernel
theorem d_M_morning_118 : decode b_M_morning 118 = .ok (.ifCond .ne 14, 3) := by decide +kernel
theorem d_M_morning_121 : decode b_M_morning 121 = .ok (.bipush 100, 2) := by decide +kernel
theorem d_M_morning_123 : decode b_M_morning 123 = .ok (.iload 5, 2) := by decide +kernel
theorem d_M_morning_125 : decode b_M_morning 125 = .ok (.imul, 1) := by decide +kernel
theorem d_M_morning_126 : decode b_M_morning 126 = .ok (.iload 6, 2) := by decide +kernel
theorem d_M_morning_128 : decode b_M_morning 128 = .ok (.iadd, 1) := by decide +kernel
theorem d_M_morning_129 : decode b_M_morning 129 = .ok (.goto 5, 3) := by decide +kernel
theorem d_M_morning_132 : decode b_M_morning 132 = .ok (.iload 4, 2) := by decide +kernel
theorem d_M_morning_134 : decode b_M_morning 134 = .ok (.istore 4, 2) := by decide +kernel
theorem d_M_morning_136 : decode b_M_morning 136 = .ok (.iload_n 3, 1) := by decide +kernel
theorem d_M_morning_137 : decode b_M_morning 137 = .ok (.iload 7, 2) := by decide +kernel
theorem d_M_morning_139 : decode b_M_morning 139 = .ok (.ifCond .eq 7, 3) := by decide +kernel
theorem d_M_morning_142 : decode b_M_morning 142 = .ok (.iconst 1, 1) := by decide +kernel
theorem d_M_morning_143 : decode b_M_morning 143 = .ok (.goto 4, 3) := by decide +kernel
theorem d_M_morning_146 : decode b_M_morning 146 = .ok (.iconst 0, 1) := by decide +kernel
theorem d_M_morning_147 : decode b_M_morning 147 = .ok (.iadd, 1) := by decide +kernel
theorem d_M_morning_148 : decode b_M_morning 148 = .ok (.istore_n 3, 1) := by decide +kernel
theorem d_M_morning_149 : decode b_M_morning 149 = .ok (.iinc 6 1, 3) := by decide +kernel
theorem d_M_morning_152 : decode b_M_morning 152 = .ok (.goto (-81), 3) := by decide +kernel
theorem d_M_morning_155 : decode b_M_morning 155 = .ok (.iinc 5 1, 3) := by decide +kernel
theorem d_M_morning_158 : decode b_M_morning 158 = .ok (.goto (-97), 3) := by decide +kernel
theorem d_M_morning_161 : decode b_M_morning 161 = .ok (.iload_n 2, 1) := by decide +kernel
theorem d_M_morning_162 : decode b_M_morning 162 = .ok (.ifCond .ne 7, 3) := by decide +kernel
theorem d_M_morning_165 : decode b_M_morning 165 = .ok (.iload_n 3, 1) := by decide +kernel
theorem d_M_morning_166 : decode b_M_morning 166 = .ok (.goto 5, 3) := by decide +kernel
theorem d_M_morning_169 : decode b_M_morning 169 = .ok (.iload 4, 2) := by decide +kernel
theorem d_M_morning_171 : decode b_M_morning 171 = .ok (.ireturn, 1) := by decide +kernel
theorem d_M_balance_0 : decode b_M_balance 0 = .ok (.iload_n 1, 1) := by decide +kernel
theorem d_M_balance_1 : decode b_M_balance 1 = .ok (.istore 4, 2) := by decide +kernel
theorem d_M_balance_3 : decode b_M_balance 3 = .ok (.iconst 0, 1) := by decide +kernel
theorem d_M_balance_4 : decode b_M_balance 4 = .ok (.istore 5, 2) := by decide +kernel
theorem d_M_balance_6 : decode b_M_balance 6 = .ok (.iconst 0, 1) := by decide +kernel
theorem d_M_balance_7 : decode b_M_balance 7 = .ok (.istore 6, 2) := by decide +kernel
theorem d_M_balance_9 : decode b_M_balance 9 = .ok (.iload 6, 2) := by decide +kernel
theorem d_M_balance_11 : decode b_M_balance 11 = .ok (.bipush 10, 2) := by decide +kernel
theorem d_M_balance_13 : decode b_M_balance 13 = .ok (.if_icmp .ge 80, 3) := by decide +kernel
theorem d_M_balance_16 : decode b_M_balance 16 = .ok (.iconst 0, 1) := by decide +kernel
theorem d_M_balance_17 : decode b_M_balance 17 = .ok (.istore 7, 2) := by decide +kernel
theorem d_M_balance_19 : decode b_M_balance 19 = .ok (.iload 7, 2) := by decide +kernel
theorem d_M_balance_21 : decode b_M_balance 21 = .ok (.aload_n 0, 1) := by decide +kernel
theorem d_M_balance_22 : decode b_M_balance 22 = .ok (.getfield 21, 3) := by decide +kernel
theorem d_M_balance_25 : decode b_M_balance 25 = .ok (.iconst 0, 1) := by decide +kernel
theorem d_M_balance_26 : decode b_M_balance 26 = .ok (.iaload, 1) := by decide +kernel
theorem d_M_balance_27 : decode b_M_balance 27 = .ok (.if_icmp .ge 60, 3) := by decide +kernel
theorem d_M_balance_30 : decode b_M_balance 30 = .ok (.aload_n 0, 1) := by decide +kernel
theorem d_M_balance_31 : decode b_M_balance 31 = .ok (.getfield 21, 3) := by decide +kernel
theorem d_M_balance_34 : decode b_M_balance 34 = .ok (.iconst 1, 1) := by decide +kernel
theorem d_M_balance_35 : decode b_M_balance 35 = .ok (.iaload, 1) := by decide +kernel
theorem d_M_balance_36 : decode b_M_balance 36 = .ok (.iload 7, 2) := by decide +kernel
theorem d_M_balance_38 : decode b_M_balance 38 = .ok (.invokestatic 96, 3) := by decide +kernel
theorem d_M_balance_41 : decode b_M_balance 41 = .ok (.ifCond .eq 40, 3) := by decide +kernel
theorem d_M_balance_44 : decode b_M_balance 44 = .ok (.aload_n 0, 1) := by decide +kernel
theorem d_M_balance_45 : decode b_M_balance 45 = .ok (.iload 7, 2) := by decide +kernel
theorem d_M_balance_47 : decode b_M_balance 47 = .ok (.iconst 0, 1) := by decide +kernel
theorem d_M_balance_48 : decode b_M_balance 48 = .ok (.aload_n 0, 1) := by decide +kernel
theorem d_M_balance_49 : decode b_M_balance 49 = .ok (.iload 7, 2) := by decide +kernel
theorem d_M_balance_51 : decode b_M_balance 51 = .ok (.iload_n 2, 1) := by decide +kernel
theorem d_M_balance_52 : decode b_M_balance 52 = .ok (.iload_n 3, 1) := by decide +kernel
theorem d_M_balance_53 : decode b_M_balance 53 = .ok (.invokevirtual 217, 3) := by decide +kernel
theorem d_M_balance_56 : decode b_M_balance 56 = .ok (.invokevirtual 235, 3) := by decide +kernel
theorem d_M_balance_59 : decode b_M_balance 59 = .ok (.iload 6, 2) := by decide +kernel
theorem d_M_balance_61 : decode b_M_balance 61 = .ok (.if_icmp .ne 20, 3) := by decide +kernel
theorem d_M_balance_64 : decode b_M_balance 64 = .ok (.iload 4, 2) := by decide +kernel
theorem d_M_balance_66 : decode b_M_balance 66 = .ok (.iload 6, 2) := by decide +kernel
theorem d_M_balance_68 : decode b_M_balance 68 = .ok (.if_icmp .lt 13, 3) := by decide +kernel
theorem d_M_balance_71 : decode b_M_balance 71 = .ok (.iload 4, 2) := by decide +kernel
theorem d_M_balance_73 : decode b_M_balance 73 = .ok (.iload 6, 2) := by decide +kernel
theorem d_M_balance_75 : decode b_M_balance 75 = .ok (.isub, 1) := by decide +kernel
theorem d_M_balance_76 : decode b_M_balance 76 = .ok (.istore 4, 2) := by decide +kernel
theorem d_M_balance_78 : decode b_M_balance 78 = .ok (.iinc 5 1, 3) := by decide +kernel
theorem d_M_balance_81 : decode b_M_balance 81 = .ok (.iinc 7 1, 3) := by decide +kernel
theorem d_M_balance_84 : decode b_M_balance 84 = .ok (.goto (-65), 3) := by decide +kernel
theorem d_M_balance_87 : decode b_M_balance 87 = .ok (.iinc 6 1, 3) := by decide +kernel
theorem d_M_balance_90 : decode b_M_balance 90 = .ok (.goto (-81), 3) := by decide +kernel
theorem d_M_balance_93 : decode b_M_balance 93 = .ok (.iload 5, 2) := by decide +kernel
theorem d_M_balance_95 : decode b_M_balance 95 = .ok (.ireturn, 1) := by decide +kernel
theorem d_M_lent_0 : decode b_M_lent 0 = .ok (.aload_n 0, 1) := by decide +kernel
theorem d_M_lent_1 : decode b_M_lent 1 = .ok (.iconst 0, 1) := by decide +kernel
theorem d_M_lent_2 : decode b_M_lent 2 = .ok (.putfield 1, 3) := by decide +kernel
theorem d_M_lent_5 : decode b_M_lent 5 = .ok (.iload_n 1, 1) := by decide +kernel
theorem d_M_lent_6 : decode b_M_lent 6 = .ok (.iload_n 2, 1) := by decide +kernel
theorem d_M_lent_7 : decode b_M_lent 7 = .ok (.invokestatic 205, 3) := by decide +kernel
theorem d_M_lent_10 : decode b_M_lent 10 = .ok (.ifCond .ne 15, 3) := by decide +kernel
theorem d_M_lent_13 : decode b_M_lent 13 = .ok (.iload_n 3, 1) := by decide +kernel
theorem d_M_lent_14 : decode b_M_lent 14 = .ok (.i2l, 1) := by decide +kernel
theorem d_M_lent_15 : decode b_M_lent 15 = .ok (.lconst 0, 1) := by decide +kernel
theorem d_M_lent_16 : decode b_M_lent 16 = .ok (.ldc2_w 73, 3) := by decide +kernel
theorem d_M_lent_19 : decode b_M_lent 19 = .ok (.invokestatic 57, 3) := by decide +kernel
theorem d_M_lent_22 : decode b_M_lent 22 = .ok (.ifCond .ne 8, 3) := by decide +kernel
theorem d_M_lent_25 : decode b_M_lent 25 = .ok (.aload_n 0, 1) := by decide +kernel
theorem d_M_lent_26 : decode b_M_lent 26 = .ok (.invokevirtual 220, 3) := by decide +kernel
theorem d_M_lent_29 : decode b_M_lent 29 = .ok (.ireturn, 1) := by decide +kernel
theorem d_M_lent_30 : decode b_M_lent 30 = .ok (.iconst 0, 1) := by decide +kernel
theorem d_M_lent_31 : decode b_M_lent 31 = .ok (.istore 4, 2) := by decide +kernel
theorem d_M_lent_33 : decode b_M_lent 33 = .ok (.iconst 0, 1) := by decide +kernel
theorem d_M_lent_34 : decode b_M_lent 34 = .ok (.istore 5, 2) := by decide +kernel
theorem d_M_lent_36 : decode b_M_lent 36 = .ok (.iconst 0, 1) := by decide +kernel
theorem d_M_lent_37 : decode b_M_lent 37 = .ok (.istore 6, 2) := by decide +kernel
theorem d_M_lent_39 : decode b_M_lent 39 = .ok (.iconst 0, 1) := by decide +kernel
theorem d_M_lent_40 : decode b_M_lent 40 = .ok (.istore 7, 2) := by decide +kernel
theorem d_M_lent_42 : decode b_M_lent 42 = .ok (.iload 7, 2) := by decide +kernel
theorem d_M_lent_44 : decode b_M_lent 44 = .ok (.aload_n 0, 1) := by decide +kernel
theorem d_M_lent_45 : decode b_M_lent 45 = .ok (.getfield 21, 3) := by decide +kernel
theorem d_M_lent_48 : decode b_M_lent 48 = .ok (.iconst 0, 1) := by decide +kernel
theorem d_M_lent_49 : decode b_M_lent 49 = .ok (.iaload, 1) := by decide +kernel
theorem d_M_lent_50 : decode b_M_lent 50 = .ok (.if_icmp .ge 103, 3) := by decide +kernel
theorem d_M_lent_53 : decode b_M_lent 53 = .ok (.aload_n 0, 1) := by decide +kernel
theorem d_M_lent_54 : decode b_M_lent 54 = .ok (.getfield 21, 3) := by decide +kernel
theorem d_M_lent_57 : decode b_M_lent 57 = .ok (.iconst 1, 1) := by decide +kernel
theorem d_M_lent_58 : decode b_M_lent 58 = .ok (.iaload, 1) := by decide +kernel
theorem d_M_lent_59 : decode b_M_lent 59 = .ok (.iload 7, 2) := by decide +kernel
theorem d_M_lent_61 : decode b_M_lent 61 = .ok (.invokestatic 96, 3) := by decide +kernel
theorem d_M_lent_64 : decode b_M_lent 64 = .ok (.ifCond .eq 83, 3) := by decide +kernel
theorem d_M_lent_67 : decode b_M_lent 67 = .ok (.aload_n 0, 1) := by decide +kernel
theorem d_M_lent_68 : decode b_M_lent 68 = .ok (.iload 7, 2) := by decide +kernel
theorem d_M_lent_70 : decode b_M_lent 70 = .ok (.iconst 0, 1) := by decide +kernel
theorem d_M_lent_71 : decode b_M_lent 71 = .ok (.aload_n 0, 1) := by decide +kernel
theorem d_M_lent_72 : decode b_M_lent 72 = .ok (.iload 7, 2) := by decide +kernel
theorem d_M_lent_74 : decode b_M_lent 74 = .ok (.iload_n 1, 1) := by decide +kernel
theorem d_M_lent_75 : decode b_M_lent 75 = .ok (.iload_n 2, 1) := by decide +kernel
theorem d_M_lent_76 : decode b_M_lent 76 = .ok (.invokevirtual 217, 3) := by decide +kernel
theorem d_M_lent_79 : decode b_M_lent 79 = .ok (.invokevirtual 235, 3) := by decide +kernel
theorem d_M_lent_82 : decode b_M_lent 82 = .ok (.istore 8, 2) := by decide +kernel
theorem d_M_lent_84 : decode b_M_lent 84 = .ok (.aload_n 0, 1) := by decide +kernel
theorem d_M_lent_85 : decode b_M_lent 85 = .ok (.getfield 21, 3) := by decide +kernel
theorem d_M_lent_88 : decode b_M_lent 88 = .ok (.bipush 13, 2) := by decide +kernel
theorem d_M_lent_90 : decode b_M_lent 90 = .ok (.iload 7, 2) := by decide +kernel
theorem d_M_lent_92 : decode b_M_lent 92 = .ok (.iadd, 1) := by decide +kernel
theorem d_M_lent_93 : decode b_M_lent 93 = .ok (.iaload, 1) := by decide +kernel
theorem d_M_lent_94 : decode b_M_lent 94 = .ok (.iload 8, 2) := by decide +kernel
theorem d_M_lent_96 : decode b_M_lent 96 = .ok (.isub, 1) := by decide +kernel
theorem d_M_lent_97 : decode b_M_lent 97 = .ok (.istore 9, 2) := by decide +kernel
theorem d_M_lent_99 : decode b_M_lent 99 = .ok (.iload 4, 2) := by decide +kernel
theorem d_M_lent_101 : decode b_M_lent 101 = .ok (.iload 9, 2) := by decide +kernel
theorem d_M_lent_103 : decode b_M_lent 103 = .ok (.ifCond .le 8, 3) := by decide +kernel
theorem d_M_lent_106 : decode b_M_lent 106 = .ok (.iload 9, 2) := by decide +kernel
theorem d_M_lent_108 : decode b_M_lent 108 = .ok (.goto 4, 3) := by decide +kernel
theorem d_M_lent_111 : decode b_M_lent 111 = .ok (.iconst 0, 1) := by decide +kernel
theorem d_M_lent_112 : decode b_M_lent 112 = .ok (.iadd, 1) := by decide +kernel
theorem d_M_lent_113 : decode b_M_lent 113 = .ok (.istore 4, 2) := by decide +kernel
theorem d_M_lent_115 : decode b_M_lent 115 = .ok (.iload 5, 2) := by decide +kernel
theorem d_M_lent_117 : decode b_M_lent 117 = .ok (.iload 9, 2) := by decide +kernel
theorem d_M_lent_119 : decode b_M_lent 119 = .ok (.ifCond .ge 9, 3) := by decide +kernel
theorem d_M_lent_122 : decode b_M_lent 122 = .ok (.iload 9, 2) := by decide +kernel
theorem d_M_lent_124 : decode b_M_lent 124 = .ok (.ineg, 1) := by decide +kernel
theorem d_M_lent_125 : decode b_M_lent 125 = .ok (.goto 4, 3) := by decide +kernel
theorem d_M_lent_128 : decode b_M_lent 128 = .ok (.iconst 0, 1) := by decide +kernel
theorem d_M_lent_129 : decode b_M_lent 129 = .ok (.iadd, 1) := by decide +kernel
theorem d_M_lent_130 : decode b_M_lent 130 = .ok (.istore 5, 2) := by decide +kernel
theorem d_M_lent_132 : decode b_M_lent 132 = .ok (.iload 6, 2) := by decide +kernel
theorem d_M_lent_134 : decode b_M_lent 134 = .ok (.aload_n 0, 1) := by decide +kernel
theorem d_M_lent_135 : decode b_M_lent 135 = .ok (.getfield 21, 3) := by decide +kernel
theorem d_M_lent_138 : decode b_M_lent 138 = .ok (.bipush 13, 2) := by decide +kernel
theorem d_M_lent_140 : decode b_M_lent 140 = .ok (.iload 7, 2) := by decide +kernel
theorem d_M_lent_142 : decode b_M_lent 142 = .ok (.iadd, 1) := by decide +kernel
theorem d_M_lent_143 : decode b_M_lent 143 = .ok (.iaload, 1) := by decide +kernel
theorem d_M_lent_144 : decode b_M_lent 144 = .ok (.iadd, 1) := by decide +kernel
theorem d_M_lent_145 : decode b_M_lent 145 = .ok (.istore 6, 2) := by decide +kernel
theorem d_M_lent_147 : decode b_M_lent 147 = .ok (.iinc 7 1, 3) := by decide +kernel
theorem d_M_lent_150 : decode b_M_lent 150 = .ok (.goto (-108), 3) := by decide +kernel
theorem d_M_lent_153 : decode b_M_lent 153 = .ok (.iload_n 3, 1) := by decide +kernel
theorem d_M_lent_154 : decode b_M_lent 154 = .ok (.ifCond .ne 8, 3) := by decide +kernel
theorem d_M_lent_157 : decode b_M_lent 157 = .ok (.iload 4, 2) := by decide +kernel
theorem d_M_lent_159 : decode b_M_lent 159 = .ok (.goto 21, 3) := by decide +kernel
theorem d_M_lent_162 : decode b_M_lent 162 = .ok (.iload_n 3, 1) := by decide +kernel
theorem d_M_lent_163 : decode b_M_lent 163 = .ok (.iconst 1, 1) := by decide +kernel
theorem d_M_lent_164 : decode b_M_lent 164 = .ok (.if_icmp .ne 8, 3) := by decide +kernel
theorem d_M_lent_167 : decode b_M_lent 167 = .ok (.iload 5, 2) := by decide +kernel
theorem d_M_lent_169 : decode b_M_lent 169 = .ok (.goto 11, 3) := by decide +kernel
theorem d_M_lent_172 : decode b_M_lent 172 = .ok (.aload_n 0, 1) := by decide +kernel
theorem d_M_lent_173 : decode b_M_lent 173 = .ok (.iload 6, 2) := by decide +kernel
theorem d_M_lent_175 : decode b_M_lent 175 = .ok (.iload_n 1, 1) := by decide +kernel
theorem d_M_lent_176 : decode b_M_lent 176 = .ok (.iload_n 2, 1) := by decide +kernel
theorem d_M_lent_177 : decode b_M_lent 177 = .ok (.invokevirtual 257, 3) := by decide +kernel
theorem d_M_lent_180 : decode b_M_lent 180 = .ok (.ireturn, 1) := by decide +kernel
theorem d_M_pence_0 : decode b_M_pence 0 = .ok (.aload_n 0, 1) := by decide +kernel
theorem d_M_pence_1 : decode b_M_pence 1 = .ok (.iconst 0, 1) := by decide +kernel
theorem d_M_pence_2 : decode b_M_pence 2 = .ok (.putfield 1, 3) := by decide +kernel
theorem d_M_pence_5 : decode b_M_pence 5 = .ok (.iload_n 1, 1) := by decide +kernel
theorem d_M_pence_6 : decode b_M_pence 6 = .ok (.iload_n 2, 1) := by decide +kernel
theorem d_M_pence_7 : decode b_M_pence 7 = .ok (.invokestatic 205, 3) := by decide +kernel
theorem d_M_pence_10 : decode b_M_pence 10 = .ok (.ifCond .ne 15, 3) := by decide +kernel
theorem d_M_pence_13 : decode b_M_pence 13 = .ok (.iload_n 3, 1) := by decide +kernel
theorem d_M_pence_14 : decode b_M_pence 14 = .ok (.i2l, 1) := by decide +kernel
theorem d_M_pence_15 : decode b_M_pence 15 = .ok (.lconst 1, 1) := by decide +kernel
theorem d_M_pence_16 : decode b_M_pence 16 = .ok (.ldc2_w 103, 3) := by decide +kernel
theorem d_M_pence_19 : decode b_M_pence 19 = .ok (.invokestatic 57, 3) := by decide +kernel
theorem d_M_pence_22 : decode b_M_pence 22 = .ok (.ifCond .ne 8, 3) := by decide +kernel
theorem d_M_pence_25 : decode b_M_pence 25 = .ok (.aload_n 0, 1) := by decide +kernel
theorem d_M_pence_26 : decode b_M_pence 26 = .ok (.invokevirtual 77, 3) := by decide +kernel
theorem d_M_pence_29 : decode b_M_pence 29 = .ok (.ireturn, 1) := by decide +kernel
theorem d_M_pence_30 : decode b_M_pence 30 = .ok (.iconst 1, 1) := by decide +kernel
theorem d_M_pence_31 : decode b_M_pence 31 = .ok (.istore 4, 2) := by decide +kernel
theorem d_M_pence_33 : decode b_M_pence 33 = .ok (.iconst 0, 1) := by decide +kernel
theorem d_M_pence_34 : decode b_M_pence 34 = .ok (.istore 5, 2) := by decide +kernel
theorem d_M_pence_36 : decode b_M_pence 36 = .ok (.iload 5, 2) := by decide +kernel
theorem d_M_pence_38 : decode b_M_pence 38 = .ok (.aload_n 0, 1) := by decide +kernel
theorem d_M_pence_39 : decode b_M_pence 39 = .ok (.getfield 21, 3) := by decide +kernel
theorem d_M_pence_42 : decode b_M_pence 42 = .ok (.iconst 0, 1) := by decide +kernel
theorem d_M_pence_43 : decode b_M_pence 43 = .ok (.iaload, 1) := by decide +kernel
theorem d_M_pence_44 : decode b_M_pence 44 = .ok (.if_icmp .ge 35, 3) := by decide +kernel
theorem d_M_pence_47 : decode b_M_pence 47 = .ok (.aload_n 0, 1) := by decide +kernel
theorem d_M_pence_48 : decode b_M_pence 48 = .ok (.iload 5, 2) := by decide +kernel
theorem d_M_pence_50 : decode b_M_pence 50 = .ok (.iload_n 1, 1) := by decide +kernel
theorem d_M_pence_51 : decode b_M_pence 51 = .ok (.iload_n 2, 1) := by decide +kernel
theorem d_M_pence_52 : decode b_M_pence 52 = .ok (.invokevirtual 217, 3) := by decide +kernel
theorem d_M_pence_55 : decode b_M_pence 55 = .ok (.istore 6, 2) := by decide +kernel
theorem d_M_pence_57 : decode b_M_pence 57 = .ok (.iload 6, 2) := by decide +kernel
theorem d_M_pence_59 : decode b_M_pence 59 = .ok (.iload 4, 2) := by decide +kernel
theorem d_M_pence_61 : decode b_M_pence 61 = .ok (.if_icmp .le 8, 3) := by decide +kernel
theorem d_M_pence_64 : decode b_M_pence 64 = .ok (.iload 6, 2) := by decide +kernel
theorem d_M_pence_66 : decode b_M_pence 66 = .ok (.goto 5, 3) := by decide +kernel
theorem d_M_pence_69 : decode b_M_pence 69 = .ok (.iload 4, 2) := by decide +kernel
theorem d_M_pence_71 : decode b_M_pence 71 = .ok (.istore 4, 2) := by decide +kernel
theorem d_M_pence_73 : decode b_M_pence 73 = .ok (.iinc 5 1, 3) := by decide +kernel
theorem d_M_pence_76 : decode b_M_pence 76 = .ok (.goto (-40), 3) := by decide +kernel
theorem d_M_pence_79 : decode b_M_pence 79 = .ok (.iload 4, 2) := by decide +kernel
theorem d_M_pence_81 : decode b_M_pence 81 = .ok (.iload_n 3, 1) := by decide +kernel
theorem d_M_pence_82 : decode b_M_pence 82 = .ok (.imul, 1) := by decide +kernel
theorem d_M_pence_83 : decode b_M_pence 83 = .ok (.aload_n 0, 1) := by decide +kernel
theorem d_M_pence_84 : decode b_M_pence 84 = .ok (.getfield 21, 3) := by decide +kernel
theorem d_M_pence_87 : decode b_M_pence 87 = .ok (.iconst 1, 1) := by decide +kernel
theorem d_M_pence_88 : decode b_M_pence 88 = .ok (.iaload, 1) := by decide +kernel
theorem d_M_pence_89 : decode b_M_pence 89 = .ok (.invokestatic 69, 3) := by decide +kernel
theorem d_M_pence_92 : decode b_M_pence 92 = .ok (.imul, 1) := by decide +kernel
theorem d_M_pence_93 : decode b_M_pence 93 = .ok (.ireturn, 1) := by decide +kernel
theorem d_M_draws_0 : decode b_M_draws 0 = .ok (.aload_n 0, 1) := by decide +kernel
theorem d_M_draws_1 : decode b_M_draws 1 = .ok (.aload_n 0, 1) := by decide +kernel
theorem d_M_draws_2 : decode b_M_draws 2 = .ok (.getfield 260, 3) := by decide +kernel
theorem d_M_draws_5 : decode b_M_draws 5 = .ok (.ldc2_w 263, 3) := by decide +kernel
theorem d_M_draws_8 : decode b_M_draws 8 = .ok (.lmul, 1) := by decide +kernel
theorem d_M_draws_9 : decode b_M_draws 9 = .ok (.ldc2_w 265, 3) := by decide +kernel
theorem d_M_draws_12 : decode b_M_draws 12 = .ok (.ladd, 1) := by decide +kernel
theorem d_M_draws_13 : decode b_M_draws 13 = .ok (.ldc2_w 267, 3) := by decide +kernel
theorem d_M_draws_16 : decode b_M_draws 16 = .ok (.lrem, 1) := by decide +kernel
theorem d_M_draws_17 : decode b_M_draws 17 = .ok (.putfield 260, 3) := by decide +kernel
theorem d_M_draws_20 : decode b_M_draws 20 = .ok (.aload_n 0, 1) := by decide +kernel
theorem d_M_draws_21 : decode b_M_draws 21 = .ok (.getfield 260, 3) := by decide +kernel
theorem d_M_draws_24 : decode b_M_draws 24 = .ok (.ldc2_w 269, 3) := by decide +kernel
theorem d_M_draws_27 : decode b_M_draws 27 = .ok (.ldiv, 1) := by decide +kernel
theorem d_M_draws_28 : decode b_M_draws 28 = .ok (.lreturn, 1) := by decide +kernel
theorem d_M_nightOf_0 : decode b_M_nightOf 0 = .ok (.aload_n 0, 1) := by decide +kernel
theorem d_M_nightOf_1 : decode b_M_nightOf 1 = .ok (.getfield 21, 3) := by decide +kernel
theorem d_M_nightOf_4 : decode b_M_nightOf 4 = .ok (.iconst 1, 1) := by decide +kernel
theorem d_M_nightOf_5 : decode b_M_nightOf 5 = .ok (.iaload, 1) := by decide +kernel
theorem d_M_nightOf_6 : decode b_M_nightOf 6 = .ok (.istore 5, 2) := by decide +kernel
theorem d_M_nightOf_8 : decode b_M_nightOf 8 = .ok (.aload_n 0, 1) := by decide +kernel
theorem d_M_nightOf_9 : decode b_M_nightOf 9 = .ok (.iload_n 3, 1) := by decide +kernel
theorem d_M_nightOf_10 : decode b_M_nightOf 10 = .ok (.i2l, 1) := by decide +kernel
theorem d_M_nightOf_11 : decode b_M_nightOf 11 = .ok (.putfield 260, 3) := by decide +kernel
theorem d_M_nightOf_14 : decode b_M_nightOf 14 = .ok (.aload_n 0, 1) := by decide +kernel
theorem d_M_nightOf_15 : decode b_M_nightOf 15 = .ok (.iconst (-1), 1) := by decide +kernel
theorem d_M_nightOf_16 : decode b_M_nightOf 16 = .ok (.putfield 271, 3) := by decide +kernel
theorem d_M_nightOf_19 : decode b_M_nightOf 19 = .ok (.iconst 0, 1) := by decide +kernel
theorem d_M_nightOf_20 : decode b_M_nightOf 20 = .ok (.istore 6, 2) := by decide +kernel
theorem d_M_nightOf_22 : decode b_M_nightOf 22 = .ok (.iload 6, 2) := by decide +kernel
theorem d_M_nightOf_24 : decode b_M_nightOf 24 = .ok (.iload_n 1, 1) := by decide +kernel
theorem d_M_nightOf_25 : decode b_M_nightOf 25 = .ok (.if_icmp .gt 100, 3) := by decide +kernel
theorem d_M_nightOf_28 : decode b_M_nightOf 28 = .ok (.aload_n 0, 1) := by decide +kernel
theorem d_M_nightOf_29 : decode b_M_nightOf 29 = .ok (.aload_n 0, 1) := by decide +kernel
theorem d_M_nightOf_30 : decode b_M_nightOf 30 = .ok (.getfield 271, 3) := by decide +kernel
theorem d_M_nightOf_33 : decode b_M_nightOf 33 = .ok (.iconst (-1), 1) := by decide +kernel
theorem d_M_nightOf_34 : decode b_M_nightOf 34 = .ok (.if_icmp .ne 17, 3) := by decide +kernel
theorem d_M_nightOf_37 : decode b_M_nightOf 37 = .ok (.iload 5, 2) := by decide +kernel
theorem d_M_nightOf_39 : decode b_M_nightOf 39 = .ok (.invokestatic 69, 3) := by decide +kernel
theorem d_M_nightOf_42 : decode b_M_nightOf 42 = .ok (.iconst 2, 1) := by decide +kernel
theorem d_M_nightOf_43 : decode b_M_nightOf 43 = .ok (.if_icmp .ge 8, 3) := by decide +kernel
theorem d_M_nightOf_46 : decode b_M_nightOf 46 = .ok (.iload 6, 2) := by decide +kernel
theorem d_M_nightOf_48 : decode b_M_nightOf 48 = .ok (.goto 7, 3) := by decide +kernel
theorem d_M_nightOf_51 : decode b_M_nightOf 51 = .ok (.aload_n 0, 1) := by decide +kernel
theorem d_M_nightOf_52 : decode b_M_nightOf 52 = .ok (.getfield 271, 3) := by decide +kernel
theorem d_M_nightOf_55 : decode b_M_nightOf 55 = .ok (.putfield 271, 3) := by decide +kernel
theorem d_M_nightOf_58 : decode b_M_nightOf 58 = .ok (.iload 6, 2) := by decide +kernel
theorem d_M_nightOf_60 : decode b_M_nightOf 60 = .ok (.iload 4, 2) := by decide +kernel
theorem d_M_nightOf_62 : decode b_M_nightOf 62 = .ok (.if_icmp .ne 16, 3) := by decide +kernel
theorem d_M_nightOf_65 : decode b_M_nightOf 65 = .ok (.iconst 1, 1) := by decide +kernel
theorem d_M_nightOf_66 : decode b_M_nightOf 66 = .ok (.aload_n 0, 1) := by decide +kernel
theorem d_M_nightOf_67 : decode b_M_nightOf 67 = .ok (.getfield 21, 3) := by decide +kernel
theorem d_M_nightOf_70 : decode b_M_nightOf 70 = .ok (.iconst 0, 1) := by decide +kernel
theorem d_M_nightOf_71 : decode b_M_nightOf 71 = .ok (.iaload, 1) := by decide +kernel
theorem d_M_nightOf_72 : decode b_M_nightOf 72 = .ok (.ishl, 1) := by decide +kernel
theorem d_M_nightOf_73 : decode b_M_nightOf 73 = .ok (.iconst 1, 1) := by decide +kernel
theorem d_M_nightOf_74 : decode b_M_nightOf 74 = .ok (.isub, 1) := by decide +kernel
theorem d_M_nightOf_75 : decode b_M_nightOf 75 = .ok (.goto 5, 3) := by decide +kernel
theorem d_M_nightOf_78 : decode b_M_nightOf 78 = .ok (.iload 5, 2) := by decide +kernel
theorem d_M_nightOf_80 : decode b_M_nightOf 80 = .ok (.istore 5, 2) := by decide +kernel
theorem d_M_nightOf_82 : decode b_M_nightOf 82 = .ok (.iload 6, 2) := by decide +kernel
theorem d_M_nightOf_84 : decode b_M_nightOf 84 = .ok (.iload_n 1, 1) := by decide +kernel
theorem d_M_nightOf_85 : decode b_M_nightOf 85 = .ok (.if_icmp .ge 34, 3) := by decide +kernel
theorem d_M_nightOf_88 : decode b_M_nightOf 88 = .ok (.aload_n 0, 1) := by decide +kernel
theorem d_M_nightOf_89 : decode b_M_nightOf 89 = .ok (.invokevirtual 274, 3) := by decide +kernel
theorem d_M_nightOf_92 : decode b_M_nightOf 92 = .ok (.ldc2_w 75, 3) := by decide +kernel
theorem d_M_nightOf_95 : decode b_M_nightOf 95 = .ok (.lrem, 1) := by decide +kernel
theorem d_M_nightOf_96 : decode b_M_nightOf 96 = .ok (.l2i, 1) := by decide +kernel
theorem d_M_nightOf_97 : decode b_M_nightOf 97 = .ok (.istore 7, 2) := by decide +kernel
theorem d_M_nightOf_99 : decode b_M_nightOf 99 = .ok (.aload_n 0, 1) := by decide +kernel
theorem d_M_nightOf_100 : decode b_M_nightOf 100 = .ok (.iload 5, 2) := by decide +kernel
theorem d_M_nightOf_102 : decode b_M_nightOf 102 = .ok (.iload 7, 2) := by decide +kernel
theorem d_M_nightOf_104 : decode b_M_nightOf 104 = .ok (.aload_n 0, 1) := by decide +kernel
theorem d_M_nightOf_105 : decode b_M_nightOf 105 = .ok (.invokevirtual 274, 3) := by decide +kernel
theorem d_M_nightOf_108 : decode b_M_nightOf 108 = .ok (.iload_n 2, 1) := by decide +kernel
theorem d_M_nightOf_109 : decode b_M_nightOf 109 = .ok (.iconst 1, 1) := by decide +kernel
theorem d_M_nightOf_110 : decode b_M_nightOf 110 = .ok (.iadd, 1) := by decide +kernel
theorem d_M_nightOf_111 : decode b_M_nightOf 111 = .ok (.i2l, 1) := by decide +kernel
theorem d_M_nightOf_112 : decode b_M_nightOf 112 = .ok (.lrem, 1) := by decide +kernel
theorem d_M_nightOf_113 : decode b_M_nightOf 113 = .ok (.l2i, 1) := by decide +kernel
theorem d_M_nightOf_114 : decode b_M_nightOf 114 = .ok (.invokevirtual 214, 3) := by decide +kernel
theorem d_M_nightOf_117 : decode b_M_nightOf 117 = .ok (.istore 5, 2) := by decide +kernel
theorem d_M_nightOf_119 : decode b_M_nightOf 119 = .ok (.iinc 6 1, 3) := by decide +kernel
theorem d_M_nightOf_122 : decode b_M_nightOf 122 = .ok (.goto (-100), 3) := by decide +kernel
theorem d_M_nightOf_125 : decode b_M_nightOf 125 = .ok (.iload 5, 2) := by decide +kernel
theorem d_M_nightOf_127 : decode b_M_nightOf 127 = .ok (.ireturn, 1) := by decide +kernel
theorem d_M_noNight_0 : decode b_M_noNight 0 = .ok (.iload_n 0, 1) := by decide +kernel
theorem d_M_noNight_1 : decode b_M_noNight 1 = .ok (.i2l, 1) := by decide +kernel
theorem d_M_noNight_2 : decode b_M_noNight 2 = .ok (.lconst 0, 1) := by decide +kernel
theorem d_M_noNight_3 : decode b_M_noNight 3 = .ok (.ldc2_w 67, 3) := by decide +kernel
theorem d_M_noNight_6 : decode b_M_noNight 6 = .ok (.invokestatic 57, 3) := by decide +kernel
theorem d_M_noNight_9 : decode b_M_noNight 9 = .ok (.ifCond .eq 27, 3) := by decide +kernel
theorem d_M_noNight_12 : decode b_M_noNight 12 = .ok (.iload_n 1, 1) := by decide +kernel
theorem d_M_noNight_13 : decode b_M_noNight 13 = .ok (.i2l, 1) := by decide +kernel
theorem d_M_noNight_14 : decode b_M_noNight 14 = .ok (.lconst 0, 1) := by decide +kernel
theorem d_M_noNight_15 : decode b_M_noNight 15 = .ok (.ldc2_w 67, 3) := by decide +kernel
theorem d_M_noNight_18 : decode b_M_noNight 18 = .ok (.invokestatic 57, 3) := by decide +kernel
theorem d_M_noNight_21 : decode b_M_noNight 21 = .ok (.ifCond .eq 15, 3) := by decide +kernel
theorem d_M_noNight_24 : decode b_M_noNight 24 = .ok (.iload_n 2, 1) := by decide +kernel
theorem d_M_noNight_25 : decode b_M_noNight 25 = .ok (.i2l, 1) := by decide +kernel
theorem d_M_noNight_26 : decode b_M_noNight 26 = .ok (.lconst 0, 1) := by decide +kernel
theorem d_M_noNight_27 : decode b_M_noNight 27 = .ok (.ldc2_w 278, 3) := by decide +kernel
theorem d_M_noNight_30 : decode b_M_noNight 30 = .ok (.invokestatic 57, 3) := by decide +kernel
theorem d_M_noNight_33 : decode b_M_noNight 33 = .ok (.ifCond .ne 7, 3) := by decide +kernel
theorem d_M_noNight_36 : decode b_M_noNight 36 = .ok (.iconst 1, 1) := by decide +kernel
theorem d_M_noNight_37 : decode b_M_noNight 37 = .ok (.goto 4, 3) := by decide +kernel
theorem d_M_noNight_40 : decode b_M_noNight 40 = .ok (.iconst 0, 1) := by decide +kernel
theorem d_M_noNight_41 : decode b_M_noNight 41 = .ok (.ireturn, 1) := by decide +kernel
theorem d_M_night_0 : decode b_M_night 0 = .ok (.aload_n 0, 1) := by decide +kernel
theorem d_M_night_1 : decode b_M_night 1 = .ok (.iconst 0, 1) := by decide +kernel
theorem d_M_night_2 : decode b_M_night 2 = .ok (.putfield 1, 3) := by decide +kernel
theorem d_M_night_5 : decode b_M_night 5 = .ok (.iload_n 1, 1) := by decide +kernel
theorem d_M_night_6 : decode b_M_night 6 = .ok (.iload_n 2, 1) := by decide +kernel
theorem d_M_night_7 : decode b_M_night 7 = .ok (.iload_n 3, 1) := by decide +kernel
theorem d_M_night_8 : decode b_M_night 8 = .ok (.invokestatic 280, 3) := by decide +kernel
theorem d_M_night_11 : decode b_M_night 11 = .ok (.ifCond .ne 14, 3) := by decide +kernel
theorem d_M_night_14 : decode b_M_night 14 = .ok (.iload 4, 2) := by decide +kernel
theorem d_M_night_16 : decode b_M_night 16 = .ok (.i2l, 1) := by decide +kernel
theorem d_M_night_17 : decode b_M_night 17 = .ok (.lconst 0, 1) := by decide +kernel
theorem d_M_night_18 : decode b_M_night 18 = .ok (.lconst 1, 1) := by decide +kernel
theorem d_M_night_19 : decode b_M_night 19 = .ok (.invokestatic 57, 3) := by decide +kernel
theorem d_M_night_22 : decode b_M_night 22 = .ok (.ifCond .ne 8, 3) := by decide +kernel
theorem d_M_night_25 : decode b_M_night 25 = .ok (.aload_n 0, 1) := by decide +kernel
theorem d_M_night_26 : decode b_M_night 26 = .ok (.invokevirtual 220, 3) := by decide +kernel
theorem d_M_night_29 : decode b_M_night 29 = .ok (.ireturn, 1) := by decide +kernel
theorem d_M_night_30 : decode b_M_night 30 = .ok (.aload_n 0, 1) := by decide +kernel
theorem d_M_night_31 : decode b_M_night 31 = .ok (.iload_n 1, 1) := by decide +kernel
theorem d_M_night_32 : decode b_M_night 32 = .ok (.iload_n 2, 1) := by decide +kernel
theorem d_M_night_33 : decode b_M_night 33 = .ok (.iload_n 3, 1) := by decide +kernel
theorem d_M_night_34 : decode b_M_night 34 = .ok (.iconst (-1), 1) := by decide +kernel
theorem d_M_night_35 : decode b_M_night 35 = .ok (.invokevirtual 284, 3) := by decide +kernel
theorem d_M_night_38 : decode b_M_night 38 = .ok (.istore 5, 2) := by decide +kernel
theorem d_M_night_40 : decode b_M_night 40 = .ok (.iload 4, 2) := by decide +kernel
theorem d_M_night_42 : decode b_M_night 42 = .ok (.ifCond .ne 10, 3) := by decide +kernel
theorem d_M_night_45 : decode b_M_night 45 = .ok (.aload_n 0, 1) := by decide +kernel
theorem d_M_night_46 : decode b_M_night 46 = .ok (.getfield 271, 3) := by decide +kernel
theorem d_M_night_49 : decode b_M_night 49 = .ok (.goto 8, 3) := by decide +kernel
theorem d_M_night_52 : decode b_M_night 52 = .ok (.iload 5, 2) := by decide +kernel
theorem d_M_night_54 : decode b_M_night 54 = .ok (.invokestatic 69, 3) := by decide +kernel
theorem d_M_night_57 : decode b_M_night 57 = .ok (.ireturn, 1) := by decide +kernel
theorem d_M_wake_0 : decode b_M_wake 0 = .ok (.aload_n 0, 1) := by decide +kernel
theorem d_M_wake_1 : decode b_M_wake 1 = .ok (.iconst 0, 1) := by decide +kernel
theorem d_M_wake_2 : decode b_M_wake 2 = .ok (.putfield 1, 3) := by decide +kernel
theorem d_M_wake_5 : decode b_M_wake 5 = .ok (.iload_n 1, 1) := by decide +kernel
theorem d_M_wake_6 : decode b_M_wake 6 = .ok (.iload_n 2, 1) := by decide +kernel
theorem d_M_wake_7 : decode b_M_wake 7 = .ok (.iload_n 3, 1) := by decide +kernel
theorem d_M_wake_8 : decode b_M_wake 8 = .ok (.invokestatic 280, 3) := by decide +kernel
theorem d_M_wake_11 : decode b_M_wake 11 = .ok (.ifCond .eq 8, 3) := by decide +kernel
theorem d_M_wake_14 : decode b_M_wake 14 = .ok (.aload_n 0, 1) := by decide +kernel
theorem d_M_wake_15 : decode b_M_wake 15 = .ok (.invokevirtual 220, 3) := by decide +kernel
theorem d_M_wake_18 : decode b_M_wake 18 = .ok (.ireturn, 1) := by decide +kernel
theorem d_M_wake_19 : decode b_M_wake 19 = .ok (.aload_n 0, 1) := by decide +kernel
theorem d_M_wake_20 : decode b_M_wake 20 = .ok (.iload_n 1, 1) := by decide +kernel
theorem d_M_wake_21 : decode b_M_wake 21 = .ok (.iload_n 2, 1) := by decide +kernel
theorem d_M_wake_22 : decode b_M_wake 22 = .ok (.iload_n 3, 1) := by decide +kernel
theorem d_M_wake_23 : decode b_M_wake 23 = .ok (.iconst (-1), 1) := by decide +kernel
theorem d_M_wake_24 : decode b_M_wake 24 = .ok (.invokevirtual 284, 3) := by decide +kernel
theorem d_M_wake_27 : decode b_M_wake 27 = .ok (.invokestatic 69, 3) := by decide +kernel
theorem d_M_wake_30 : decode b_M_wake 30 = .ok (.istore 4, 2) := by decide +kernel
theorem d_M_wake_32 : decode b_M_wake 32 = .ok (.iconst (-1), 1) := by decide +kernel
theorem d_M_wake_33 : decode b_M_wake 33 = .ok (.istore 5, 2) := by decide +kernel
theorem d_M_wake_35 : decode b_M_wake 35 = .ok (.iconst 0, 1) := by decide +kernel
theorem d_M_wake_36 : decode b_M_wake 36 = .ok (.istore 6, 2) := by decide +kernel
theorem d_M_wake_38 : decode b_M_wake 38 = .ok (.iload 6, 2) := by decide +kernel
theorem d_M_wake_40 : decode b_M_wake 40 = .ok (.iload_n 1, 1) := by decide +kernel
theorem d_M_wake_41 : decode b_M_wake 41 = .ok (.if_icmp .gt 78, 3) := by decide +kernel
theorem d_M_wake_44 : decode b_M_wake 44 = .ok (.aload_n 0, 1) := by decide +kernel
theorem d_M_wake_45 : decode b_M_wake 45 = .ok (.iload_n 1, 1) := by decide +kernel
theorem d_M_wake_46 : decode b_M_wake 46 = .ok (.iload_n 2, 1) := by decide +kernel
theorem d_M_wake_47 : decode b_M_wake 47 = .ok (.iload_n 3, 1) := by decide +kernel
theorem d_M_wake_48 : decode b_M_wake 48 = .ok (.iload 6, 2) := by decide +kernel
theorem d_M_wake_50 : decode b_M_wake 50 = .ok (.invokevirtual 284, 3) := by decide +kernel
theorem d_M_wake_53 : decode b_M_wake 53 = .ok (.invokestatic 69, 3) := by decide +kernel
theorem d_M_wake_56 : decode b_M_wake 56 = .ok (.istore 7, 2) := by decide +kernel
theorem d_M_wake_58 : decode b_M_wake 58 = .ok (.iload 7, 2) := by decide +kernel
theorem d_M_wake_60 : decode b_M_wake 60 = .ok (.iload 4, 2) := by decide +kernel
theorem d_M_wake_62 : decode b_M_wake 62 = .ok (.if_icmp .gt 16, 3) := by decide +kernel
theorem d_M_wake_65 : decode b_M_wake 65 = .ok (.iload 7, 2) := by decide +kernel
theorem d_M_wake_67 : decode b_M_wake 67 = .ok (.iload 4, 2) := by decide +kernel
theorem d_M_wake_69 : decode b_M_wake 69 = .ok (.if_icmp .ne 13, 3) := by decide +kernel
theorem d_M_wake_72 : decode b_M_wake 72 = .ok (.iload 5, 2) := by decide +kernel
theorem d_M_wake_74 : decode b_M_wake 74 = .ok (.iconst (-1), 1) := by decide +kernel
theorem d_M_wake_75 : decode b_M_wake 75 = .ok (.if_icmp .eq 7, 3) := by decide +kernel
theorem d_M_wake_78 : decode b_M_wake 78 = .ok (.iconst 1, 1) := by decide +kernel
theorem d_M_wake_79 : decode b_M_wake 79 = .ok (.goto 4, 3) := by decide +kernel
theorem d_M_wake_82 : decode b_M_wake 82 = .ok (.iconst 0, 1) := by decide +kernel
theorem d_M_wake_83 : decode b_M_wake 83 = .ok (.istore 8, 2) := by decide +kernel
theorem d_M_wake_85 : decode b_M_wake 85 = .ok (.iload 8, 2) := by decide +kernel
theorem d_M_wake_87 : decode b_M_wake 87 = .ok (.ifCond .eq 8, 3) := by decide +kernel
theorem d_M_wake_90 : decode b_M_wake 90 = .ok (.iload 6, 2) := by decide +kernel
theorem d_M_wake_92 : decode b_M_wake 92 = .ok (.goto 5, 3) := by decide +kernel
theorem d_M_wake_95 : decode b_M_wake 95 = .ok (.iload 5, 2) := by decide +kernel
theorem d_M_wake_97 : decode b_M_wake 97 = .ok (.istore 5, 2) := by decide +kernel
theorem d_M_wake_99 : decode b_M_wake 99 = .ok (.iload 8, 2) := by decide +kernel
theorem d_M_wake_101 : decode b_M_wake 101 = .ok (.ifCond .eq 8, 3) := by decide +kernel
theorem d_M_wake_104 : decode b_M_wake 104 = .ok (.iload 7, 2) := by decide +kernel
theorem d_M_wake_106 : decode b_M_wake 106 = .ok (.goto 5, 3) := by decide +kernel
theorem d_M_wake_109 : decode b_M_wake 109 = .ok (.iload 4, 2) := by decide +kernel
theorem d_M_wake_111 : decode b_M_wake 111 = .ok (.istore 4, 2) := by decide +kernel
theorem d_M_wake_113 : decode b_M_wake 113 = .ok (.iinc 6 1, 3) := by decide +kernel
theorem d_M_wake_116 : decode b_M_wake 116 = .ok (.goto (-78), 3) := by decide +kernel
theorem d_M_wake_119 : decode b_M_wake 119 = .ok (.iload 5, 2) := by decide +kernel
theorem d_M_wake_121 : decode b_M_wake 121 = .ok (.ireturn, 1) := by decide +kernel
theorem d_M_image_0 : decode b_M_image 0 = .ok (.aload_n 0, 1) := by decide +kernel
theorem d_M_image_1 : decode b_M_image 1 = .ok (.iconst 0, 1) := by decide +kernel
theorem d_M_image_2 : decode b_M_image 2 = .ok (.putfield 1, 3) := by decide +kernel
theorem d_M_image_5 : decode b_M_image 5 = .ok (.iload_n 1, 1) := by decide +kernel
theorem d_M_image_6 : decode b_M_image 6 = .ok (.i2l, 1) := by decide +kernel
theorem d_M_image_7 : decode b_M_image 7 = .ok (.lconst 0, 1) := by decide +kernel
theorem d_M_image_8 : decode b_M_image 8 = .ok (.lconst 1, 1) := by decide +kernel
theorem d_M_image_9 : decode b_M_image 9 = .ok (.invokestatic 57, 3) := by decide +kernel
theorem d_M_image_12 : decode b_M_image 12 = .ok (.ifCond .ne 8, 3) := by decide +kernel
theorem d_M_image_15 : decode b_M_image 15 = .ok (.aload_n 0, 1) := by decide +kernel
theorem d_M_image_16 : decode b_M_image 16 = .ok (.invokevirtual 77, 3) := by decide +kernel
theorem d_M_image_19 : decode b_M_image 19 = .ok (.ireturn, 1) := by decide +kernel
theorem d_M_image_20 : decode b_M_image 20 = .ok (.iconst 0, 1) := by decide +kernel
theorem d_M_image_21 : decode b_M_image 21 = .ok (.istore_n 2, 1) := by decide +kernel
theorem d_M_image_22 : decode b_M_image 22 = .ok (.iload_n 2, 1) := by decide +kernel
theorem d_M_image_23 : decode b_M_image 23 = .ok (.bipush 47, 2) := by decide +kernel
theorem d_M_image_25 : decode b_M_image 25 = .ok (.if_icmp .ge 26, 3) := by decide +kernel
theorem d_M_image_28 : decode b_M_image 28 = .ok (.aload_n 0, 1) := by decide +kernel
theorem d_M_image_29 : decode b_M_image 29 = .ok (.getfield 27, 3) := by decide +kernel
theorem d_M_image_32 : decode b_M_image 32 = .ok (.bipush 47, 2) := by decide +kernel
theorem d_M_image_34 : decode b_M_image 34 = .ok (.iload_n 1, 1) := by decide +kernel
theorem d_M_image_35 : decode b_M_image 35 = .ok (.imul, 1) := by decide +kernel
theorem d_M_image_36 : decode b_M_image 36 = .ok (.iload_n 2, 1) := by decide +kernel
theorem d_M_image_37 : decode b_M_image 37 = .ok (.iadd, 1) := by decide +kernel
theorem d_M_image_38 : decode b_M_image 38 = .ok (.aload_n 0, 1) := by decide +kernel
theorem d_M_image_39 : decode b_M_image 39 = .ok (.getfield 21, 3) := by decide +kernel
theorem d_M_image_42 : decode b_M_image 42 = .ok (.iload_n 2, 1) := by decide +kernel
theorem d_M_image_43 : decode b_M_image 43 = .ok (.iaload, 1) := by decide +kernel
theorem d_M_image_44 : decode b_M_image 44 = .ok (.iastore, 1) := by decide +kernel
theorem d_M_image_45 : decode b_M_image 45 = .ok (.iinc 2 1, 3) := by decide +kernel
theorem d_M_image_48 : decode b_M_image 48 = .ok (.goto (-26), 3) := by decide +kernel
theorem d_M_image_51 : decode b_M_image 51 = .ok (.aload_n 0, 1) := by decide +kernel
theorem d_M_image_52 : decode b_M_image 52 = .ok (.getfield 30, 3) := by decide +kernel
theorem d_M_image_55 : decode b_M_image 55 = .ok (.iload_n 1, 1) := by decide +kernel
theorem d_M_image_56 : decode b_M_image 56 = .ok (.iconst 1, 1) := by decide +kernel
theorem d_M_image_57 : decode b_M_image 57 = .ok (.bastore, 1) := by decide +kernel
theorem d_M_image_58 : decode b_M_image 58 = .ok (.iconst 1, 1) := by decide +kernel
theorem d_M_image_59 : decode b_M_image 59 = .ok (.ireturn, 1) := by decide +kernel
theorem d_M_from_0 : decode b_M_from 0 = .ok (.aload_n 0, 1) := by decide +kernel
theorem d_M_from_1 : decode b_M_from 1 = .ok (.iconst 0, 1) := by decide +kernel
theorem d_M_from_2 : decode b_M_from 2 = .ok (.putfield 1, 3) := by decide +kernel
theorem d_M_from_5 : decode b_M_from 5 = .ok (.iload_n 1, 1) := by decide +kernel
theorem d_M_from_6 : decode b_M_from 6 = .ok (.i2l, 1) := by decide +kernel
theorem d_M_from_7 : decode b_M_from 7 = .ok (.lconst 0, 1) := by decide +kernel
theorem d_M_from_8 : decode b_M_from 8 = .ok (.lconst 1, 1) := by decide +kernel
theorem d_M_from_9 : decode b_M_from 9 = .ok (.invokestatic 57, 3) := by decide +kernel
theorem d_M_from_12 : decode b_M_from 12 = .ok (.ifCond .ne 8, 3) := by decide +kernel
theorem d_M_from_15 : decode b_M_from 15 = .ok (.aload_n 0, 1) := by decide +kernel
theorem d_M_from_16 : decode b_M_from 16 = .ok (.invokevirtual 77, 3) := by decide +kernel
theorem d_M_from_19 : decode b_M_from 19 = .ok (.ireturn, 1) := by decide +kernel
theorem d_M_from_20 : decode b_M_from 20 = .ok (.aload_n 0, 1) := by decide +kernel
theorem d_M_from_21 : decode b_M_from 21 = .ok (.getfield 30, 3) := by decide +kernel
theorem d_M_from_24 : decode b_M_from 24 = .ok (.iload_n 1, 1) := by decide +kernel
theorem d_M_from_25 : decode b_M_from 25 = .ok (.baload, 1) := by decide +kernel
theorem d_M_from_26 : decode b_M_from 26 = .ok (.ifCond .ne 8, 3) := by decide +kernel
theorem d_M_from_29 : decode b_M_from 29 = .ok (.aload_n 0, 1) := by decide +kernel
theorem d_M_from_30 : decode b_M_from 30 = .ok (.invokevirtual 100, 3) := by decide +kernel
theorem d_M_from_33 : decode b_M_from 33 = .ok (.ireturn, 1) := by decide +kernel
theorem d_M_from_34 : decode b_M_from 34 = .ok (.iconst 0, 1) := by decide +kernel
theorem d_M_from_35 : decode b_M_from 35 = .ok (.istore_n 2, 1) := by decide +kernel
theorem d_M_from_36 : decode b_M_from 36 = .ok (.iload_n 2, 1) := by decide +kernel
theorem d_M_from_37 : decode b_M_from 37 = .ok (.bipush 47, 2) := by decide +kernel
theorem d_M_from_39 : decode b_M_from 39 = .ok (.if_icmp .ge 26, 3) := by decide +kernel
theorem d_M_from_42 : decode b_M_from 42 = .ok (.aload_n 0, 1) := by decide +kernel
theorem d_M_from_43 : decode b_M_from 43 = .ok (.getfield 21, 3) := by decide +kernel
theorem d_M_from_46 : decode b_M_from 46 = .ok (.iload_n 2, 1) := by decide +kernel
theorem d_M_from_47 : decode b_M_from 47 = .ok (.aload_n 0, 1) := by decide +kernel
theorem d_M_from_48 : decode b_M_from 48 = .ok (.getfield 27, 3) := by decide +kernel
theorem d_M_from_51 : decode b_M_from 51 = .ok (.bipush 47, 2) := by decide +kernel
theorem d_M_from_53 : decode b_M_from 53 = .ok (.iload_n 1, 1) := by decide +kernel
theorem d_M_from_54 : decode b_M_from 54 = .ok (.imul, 1) := by decide +kernel
theorem d_M_from_55 : decode b_M_from 55 = .ok (.iload_n 2, 1) := by decide +kernel
theorem d_M_from_56 : decode b_M_from 56 = .ok (.iadd, 1) := by decide +kernel
theorem d_M_from_57 : decode b_M_from 57 = .ok (.iaload, 1) := by decide +kernel
theorem d_M_from_58 : decode b_M_from 58 = .ok (.iastore, 1) := by decide +kernel
theorem d_M_from_59 : decode b_M_from 59 = .ok (.iinc 2 1, 3) := by decide +kernel
theorem d_M_from_62 : decode b_M_from 62 = .ok (.goto (-26), 3) := by decide +kernel
theorem d_M_from_65 : decode b_M_from 65 = .ok (.iconst 1, 1) := by decide +kernel
theorem d_M_from_66 : decode b_M_from 66 = .ok (.ireturn, 1) := by decide +kernel
theorem d_M_status_0 : decode b_M_status 0 = .ok (.aload_n 0, 1) := by decide +kernel
theorem d_M_status_1 : decode b_M_status 1 = .ok (.iconst 0, 1) := by decide +kernel
theorem d_M_status_2 : decode b_M_status 2 = .ok (.putfield 1, 3) := by decide +kernel
theorem d_M_status_5 : decode b_M_status 5 = .ok (.iload_n 1, 1) := by decide +kernel
theorem d_M_status_6 : decode b_M_status 6 = .ok (.i2l, 1) := by decide +kernel
theorem d_M_status_7 : decode b_M_status 7 = .ok (.lconst 0, 1) := by decide +kernel
theorem d_M_status_8 : decode b_M_status 8 = .ok (.ldc2_w 73, 3) := by decide +kernel
theorem d_M_status_11 : decode b_M_status 11 = .ok (.invokestatic 57, 3) := by decide +kernel
theorem d_M_status_14 : decode b_M_status 14 = .ok (.ifCond .eq 12, 3) := by decide +kernel
theorem d_M_status_17 : decode b_M_status 17 = .ok (.aload_n 0, 1) := by decide +kernel
theorem d_M_status_18 : decode b_M_status 18 = .ok (.getfield 7, 3) := by decide +kernel
theorem d_M_status_21 : decode b_M_status 21 = .ok (.iload_n 1, 1) := by decide +kernel
theorem d_M_status_22 : decode b_M_status 22 = .ok (.iaload, 1) := by decide +kernel
theorem d_M_status_23 : decode b_M_status 23 = .ok (.goto 9, 3) := by decide +kernel
theorem d_M_status_26 : decode b_M_status 26 = .ok (.aload_n 0, 1) := by decide +kernel
theorem d_M_status_27 : decode b_M_status 27 = .ok (.iconst 0, 1) := by decide +kernel
theorem d_M_status_28 : decode b_M_status 28 = .ok (.iconst (-1), 1) := by decide +kernel
theorem d_M_status_29 : decode b_M_status 29 = .ok (.invokevirtual 11, 3) := by decide +kernel
theorem d_M_status_32 : decode b_M_status 32 = .ok (.ireturn, 1) := by decide +kernel
theorem d_M_countOf_0 : decode b_M_countOf 0 = .ok (.iload_n 1, 1) := by decide +kernel
theorem d_M_countOf_1 : decode b_M_countOf 1 = .ok (.ifCond .ne 12, 3) := by decide +kernel
theorem d_M_countOf_4 : decode b_M_countOf 4 = .ok (.aload_n 0, 1) := by decide +kernel
theorem d_M_countOf_5 : decode b_M_countOf 5 = .ok (.getfield 21, 3) := by decide +kernel
theorem d_M_countOf_8 : decode b_M_countOf 8 = .ok (.iconst 0, 1) := by decide +kernel
theorem d_M_countOf_9 : decode b_M_countOf 9 = .ok (.iaload, 1) := by decide +kernel
theorem d_M_countOf_10 : decode b_M_countOf 10 = .ok (.goto 66, 3) := by decide +kernel
theorem d_M_countOf_13 : decode b_M_countOf 13 = .ok (.iload_n 1, 1) := by decide +kernel
theorem d_M_countOf_14 : decode b_M_countOf 14 = .ok (.iconst 1, 1) := by decide +kernel
theorem d_M_countOf_15 : decode b_M_countOf 15 = .ok (.if_icmp .ne 15, 3) := by decide +kernel
theorem d_M_countOf_18 : decode b_M_countOf 18 = .ok (.aload_n 0, 1) := by decide +kernel
theorem d_M_countOf_19 : decode b_M_countOf 19 = .ok (.getfield 21, 3) := by decide +kernel
theorem d_M_countOf_22 : decode b_M_countOf 22 = .ok (.iconst 1, 1) := by decide +kernel
theorem d_M_countOf_23 : decode b_M_countOf 23 = .ok (.iaload, 1) := by decide +kernel
theorem d_M_countOf_24 : decode b_M_countOf 24 = .ok (.invokestatic 69, 3) := by decide +kernel
theorem d_M_countOf_27 : decode b_M_countOf 27 = .ok (.goto 49, 3) := by decide +kernel
theorem d_M_countOf_30 : decode b_M_countOf 30 = .ok (.iload_n 1, 1) := by decide +kernel
theorem d_M_countOf_31 : decode b_M_countOf 31 = .ok (.iconst 2, 1) := by decide +kernel
theorem d_M_countOf_32 : decode b_M_countOf 32 = .ok (.if_icmp .ne 12, 3) := by decide +kernel
theorem d_M_countOf_35 : decode b_M_countOf 35 = .ok (.aload_n 0, 1) := by decide +kernel
theorem d_M_countOf_36 : decode b_M_countOf 36 = .ok (.getfield 21, 3) := by decide +kernel
theorem d_M_countOf_39 : decode b_M_countOf 39 = .ok (.iconst 2, 1) := by decide +kernel
theorem d_M_countOf_40 : decode b_M_countOf 40 = .ok (.iaload, 1) := by decide +kernel
theorem d_M_countOf_41 : decode b_M_countOf 41 = .ok (.goto 35, 3) := by decide +kernel
theorem d_M_countOf_44 : decode b_M_countOf 44 = .ok (.iload_n 1, 1) := by decide +kernel
theorem d_M_countOf_45 : decode b_M_countOf 45 = .ok (.iconst 3, 1) := by decide +kernel
theorem d_M_countOf_46 : decode b_M_countOf 46 = .ok (.if_icmp .ne 12, 3) := by decide +kernel
theorem d_M_countOf_49 : decode b_M_countOf 49 = .ok (.aload_n 0, 1) := by decide +kernel
theorem d_M_countOf_50 : decode b_M_countOf 50 = .ok (.getfield 21, 3) := by decide +kernel
theorem d_M_countOf_53 : decode b_M_countOf 53 = .ok (.iconst 3, 1) := by decide +kernel
theorem d_M_countOf_54 : decode b_M_countOf 54 = .ok (.iaload, 1) := by decide +kernel
theorem d_M_countOf_55 : decode b_M_countOf 55 = .ok (.goto 21, 3) := by decide +kernel
theorem d_M_countOf_58 : decode b_M_countOf 58 = .ok (.iload_n 1, 1) := by decide +kernel
theorem d_M_countOf_59 : decode b_M_countOf 59 = .ok (.iconst 4, 1) := by decide +kernel
theorem d_M_countOf_60 : decode b_M_countOf 60 = .ok (.if_icmp .ne 12, 3) := by decide +kernel
theorem d_M_countOf_63 : decode b_M_countOf 63 = .ok (.aload_n 0, 1) := by decide +kernel
theorem d_M_countOf_64 : decode b_M_countOf 64 = .ok (.getfield 21, 3) := by decide +kernel
theorem d_M_countOf_67 : decode b_M_countOf 67 = .ok (.iconst 4, 1) := by decide +kernel
theorem d_M_countOf_68 : decode b_M_countOf 68 = .ok (.iaload, 1) := by decide +kernel
theorem d_M_countOf_69 : decode b_M_countOf 69 = .ok (.goto 7, 3) := by decide +kernel
theorem d_M_countOf_72 : decode b_M_countOf 72 = .ok (.aload_n 0, 1) := by decide +kernel
theorem d_M_countOf_73 : decode b_M_countOf 73 = .ok (.getfield 107, 3) := by decide +kernel
theorem d_M_countOf_76 : decode b_M_countOf 76 = .ok (.ireturn, 1) := by decide +kernel
theorem d_M_count_0 : decode b_M_count 0 = .ok (.aload_n 0, 1) := by decide +kernel
theorem d_M_count_1 : decode b_M_count 1 = .ok (.iconst 0, 1) := by decide +kernel
theorem d_M_count_2 : decode b_M_count 2 = .ok (.putfield 1, 3) := by decide +kernel
theorem d_M_count_5 : decode b_M_count 5 = .ok (.iload_n 1, 1) := by decide +kernel
theorem d_M_count_6 : decode b_M_count 6 = .ok (.i2l, 1) := by decide +kernel
theorem d_M_count_7 : decode b_M_count 7 = .ok (.lconst 0, 1) := by decide +kernel
theorem d_M_count_8 : decode b_M_count 8 = .ok (.ldc2_w 84, 3) := by decide +kernel
theorem d_M_count_11 : decode b_M_count 11 = .ok (.invokestatic 57, 3) := by decide +kernel
theorem d_M_count_14 : decode b_M_count 14 = .ok (.ifCond .eq 11, 3) := by decide +kernel
theorem d_M_count_17 : decode b_M_count 17 = .ok (.aload_n 0, 1) := by decide +kernel
theorem d_M_count_18 : decode b_M_count 18 = .ok (.iload_n 1, 1) := by decide +kernel
theorem d_M_count_19 : decode b_M_count 19 = .ok (.invokevirtual 288, 3) := by decide +kernel
theorem d_M_count_22 : decode b_M_count 22 = .ok (.goto 7, 3) := by decide +kernel
theorem d_M_count_25 : decode b_M_count 25 = .ok (.aload_n 0, 1) := by decide +kernel
theorem d_M_count_26 : decode b_M_count 26 = .ok (.invokevirtual 77, 3) := by decide +kernel
theorem d_M_count_29 : decode b_M_count 29 = .ok (.ireturn, 1) := by decide +kernel
theorem d_M_digest_0 : decode b_M_digest 0 = .ok (.aload_n 0, 1) := by decide +kernel
theorem d_M_digest_1 : decode b_M_digest 1 = .ok (.iconst 0, 1) := by decide +kernel
theorem d_M_digest_2 : decode b_M_digest 2 = .ok (.putfield 1, 3) := by decide +kernel
theorem d_M_digest_5 : decode b_M_digest 5 = .ok (.ldc2_w 291, 3) := by decide +kernel
theorem d_M_digest_8 : decode b_M_digest 8 = .ok (.lstore_n 1, 1) := by decide +kernel
theorem d_M_digest_9 : decode b_M_digest 9 = .ok (.iconst 0, 1) := by decide +kernel
theorem d_M_digest_10 : decode b_M_digest 10 = .ok (.istore_n 3, 1) := by decide +kernel
theorem d_M_digest_11 : decode b_M_digest 11 = .ok (.iload_n 3, 1) := by decide +kernel
theorem d_M_digest_12 : decode b_M_digest 12 = .ok (.bipush 6, 2) := by decide +kernel
theorem d_M_digest_14 : decode b_M_digest 14 = .ok (.if_icmp .ge 22, 3) := by decide +kernel
theorem d_M_digest_17 : decode b_M_digest 17 = .ok (.ldc2_w 293, 3) := by decide +kernel
theorem d_M_digest_20 : decode b_M_digest 20 = .ok (.lload_n 1, 1) := by decide +kernel
theorem d_M_digest_21 : decode b_M_digest 21 = .ok (.lmul, 1) := by decide +kernel
theorem d_M_digest_22 : decode b_M_digest 22 = .ok (.aload_n 0, 1) := by decide +kernel
theorem d_M_digest_23 : decode b_M_digest 23 = .ok (.iload_n 3, 1) := by decide +kernel
theorem d_M_digest_24 : decode b_M_digest 24 = .ok (.invokevirtual 288, 3) := by decide +kernel
theorem d_M_digest_27 : decode b_M_digest 27 = .ok (.i2l, 1) := by decide +kernel
theorem d_M_digest_28 : decode b_M_digest 28 = .ok (.ladd, 1) := by decide +kernel
theorem d_M_digest_29 : decode b_M_digest 29 = .ok (.lstore_n 1, 1) := by decide +kernel
theorem d_M_digest_30 : decode b_M_digest 30 = .ok (.iinc 3 1, 3) := by decide +kernel
theorem d_M_digest_33 : decode b_M_digest 33 = .ok (.goto (-22), 3) := by decide +kernel
theorem d_M_digest_36 : decode b_M_digest 36 = .ok (.iconst 0, 1) := by decide +kernel
theorem d_M_digest_37 : decode b_M_digest 37 = .ok (.istore_n 3, 1) := by decide +kernel
theorem d_M_digest_38 : decode b_M_digest 38 = .ok (.iload_n 3, 1) := by decide +kernel
theorem d_M_digest_39 : decode b_M_digest 39 = .ok (.aload_n 0, 1) := by decide +kernel
theorem d_M_digest_40 : decode b_M_digest 40 = .ok (.getfield 21, 3) := by decide +kernel
theorem d_M_digest_43 : decode b_M_digest 43 = .ok (.iconst 0, 1) := by decide +kernel
theorem d_M_digest_44 : decode b_M_digest 44 = .ok (.iaload, 1) := by decide +kernel
theorem d_M_digest_45 : decode b_M_digest 45 = .ok (.if_icmp .ge 77, 3) := by decide +kernel
theorem d_M_digest_48 : decode b_M_digest 48 = .ok (.ldc2_w 293, 3) := by decide +kernel
theorem d_M_digest_51 : decode b_M_digest 51 = .ok (.lload_n 1, 1) := by decide +kernel
theorem d_M_digest_52 : decode b_M_digest 52 = .ok (.lmul, 1) := by decide +kernel
theorem d_M_digest_53 : decode b_M_digest 53 = .ok (.aload_n 0, 1) := by decide +kernel
theorem d_M_digest_54 : decode b_M_digest 54 = .ok (.getfield 21, 3) := by decide +kernel
theorem d_M_digest_57 : decode b_M_digest 57 = .ok (.iconst 5, 1) := by decide +kernel
theorem d_M_digest_58 : decode b_M_digest 58 = .ok (.iload_n 3, 1) := by decide +kernel
theorem d_M_digest_59 : decode b_M_digest 59 = .ok (.iadd, 1) := by decide +kernel
theorem d_M_digest_60 : decode b_M_digest 60 = .ok (.iaload, 1) := by decide +kernel
theorem d_M_digest_61 : decode b_M_digest 61 = .ok (.i2l, 1) := by decide +kernel
theorem d_M_digest_62 : decode b_M_digest 62 = .ok (.ladd, 1) := by decide +kernel
theorem d_M_digest_63 : decode b_M_digest 63 = .ok (.lstore_n 1, 1) := by decide +kernel
theorem d_M_digest_64 : decode b_M_digest 64 = .ok (.ldc2_w 293, 3) := by decide +kernel
theorem d_M_digest_67 : decode b_M_digest 67 = .ok (.lload_n 1, 1) := by decide +kernel
theorem d_M_digest_68 : decode b_M_digest 68 = .ok (.lmul, 1) := by decide +kernel
theorem d_M_digest_69 : decode b_M_digest 69 = .ok (.aload_n 0, 1) := by decide +kernel
theorem d_M_digest_70 : decode b_M_digest 70 = .ok (.getfield 21, 3) := by decide +kernel
theorem d_M_digest_73 : decode b_M_digest 73 = .ok (.bipush 13, 2) := by decide +kernel
theorem d_M_digest_75 : decode b_M_digest 75 = .ok (.iload_n 3, 1) := by decide +kernel
theorem d_M_digest_76 : decode b_M_digest 76 = .ok (.iadd, 1) := by decide +kernel
theorem d_M_digest_77 : decode b_M_digest 77 = .ok (.iaload, 1) := by decide +kernel
theorem d_M_digest_78 : decode b_M_digest 78 = .ok (.i2l, 1) := by decide +kernel
theorem d_M_digest_79 : decode b_M_digest 79 = .ok (.ladd, 1) := by decide +kernel
theorem d_M_digest_80 : decode b_M_digest 80 = .ok (.lstore_n 1, 1) := by decide +kernel
theorem d_M_digest_81 : decode b_M_digest 81 = .ok (.ldc2_w 293, 3) := by decide +kernel
theorem d_M_digest_84 : decode b_M_digest 84 = .ok (.lload_n 1, 1) := by decide +kernel
theorem d_M_digest_85 : decode b_M_digest 85 = .ok (.lmul, 1) := by decide +kernel
theorem d_M_digest_86 : decode b_M_digest 86 = .ok (.aload_n 0, 1) := by decide +kernel
theorem d_M_digest_87 : decode b_M_digest 87 = .ok (.getfield 21, 3) := by decide +kernel
theorem d_M_digest_90 : decode b_M_digest 90 = .ok (.bipush 21, 2) := by decide +kernel
theorem d_M_digest_92 : decode b_M_digest 92 = .ok (.iload_n 3, 1) := by decide +kernel
theorem d_M_digest_93 : decode b_M_digest 93 = .ok (.iadd, 1) := by decide +kernel
theorem d_M_digest_94 : decode b_M_digest 94 = .ok (.iaload, 1) := by decide +kernel
theorem d_M_digest_95 : decode b_M_digest 95 = .ok (.i2l, 1) := by decide +kernel
theorem d_M_digest_96 : decode b_M_digest 96 = .ok (.ladd, 1) := by decide +kernel
theorem d_M_digest_97 : decode b_M_digest 97 = .ok (.lstore_n 1, 1) := by decide +kernel
theorem d_M_digest_98 : decode b_M_digest 98 = .ok (.ldc2_w 293, 3) := by decide +kernel
theorem d_M_digest_101 : decode b_M_digest 101 = .ok (.lload_n 1, 1) := by decide +kernel
theorem d_M_digest_102 : decode b_M_digest 102 = .ok (.lmul, 1) := by decide +kernel
theorem d_M_digest_103 : decode b_M_digest 103 = .ok (.aload_n 0, 1) := by decide +kernel
theorem d_M_digest_104 : decode b_M_digest 104 = .ok (.getfield 21, 3) := by decide +kernel
theorem d_M_digest_107 : decode b_M_digest 107 = .ok (.iconst 1, 1) := by decide +kernel
theorem d_M_digest_108 : decode b_M_digest 108 = .ok (.iaload, 1) := by decide +kernel
theorem d_M_digest_109 : decode b_M_digest 109 = .ok (.iload_n 3, 1) := by decide +kernel
theorem d_M_digest_110 : decode b_M_digest 110 = .ok (.ishr, 1) := by decide +kernel
theorem d_M_digest_111 : decode b_M_digest 111 = .ok (.iconst 1, 1) := by decide +kernel
theorem d_M_digest_112 : decode b_M_digest 112 = .ok (.iand, 1) := by decide +kernel
theorem d_M_digest_113 : decode b_M_digest 113 = .ok (.i2l, 1) := by decide +kernel
theorem d_M_digest_114 : decode b_M_digest 114 = .ok (.ladd, 1) := by decide +kernel
theorem d_M_digest_115 : decode b_M_digest 115 = .ok (.lstore_n 1, 1) := by decide +kernel
theorem d_M_digest_116 : decode b_M_digest 116 = .ok (.iinc 3 1, 3) := by decide +kernel
theorem d_M_digest_119 : decode b_M_digest 119 = .ok (.goto (-81), 3) := by decide +kernel
theorem d_M_digest_122 : decode b_M_digest 122 = .ok (.iconst 0, 1) := by decide +kernel
theorem d_M_digest_123 : decode b_M_digest 123 = .ok (.istore_n 3, 1) := by decide +kernel
theorem d_M_digest_124 : decode b_M_digest 124 = .ok (.iload_n 3, 1) := by decide +kernel
theorem d_M_digest_125 : decode b_M_digest 125 = .ok (.bipush 8, 2) := by decide +kernel
theorem d_M_digest_127 : decode b_M_digest 127 = .ok (.if_icmp .ge 26, 3) := by decide +kernel
theorem d_M_digest_130 : decode b_M_digest 130 = .ok (.ldc2_w 293, 3) := by decide +kernel
theorem d_M_digest_133 : decode b_M_digest 133 = .ok (.lload_n 1, 1) := by decide +kernel
theorem d_M_digest_134 : decode b_M_digest 134 = .ok (.lmul, 1) := by decide +kernel
theorem d_M_digest_135 : decode b_M_digest 135 = .ok (.aload_n 0, 1) := by decide +kernel
theorem d_M_digest_136 : decode b_M_digest 136 = .ok (.getfield 21, 3) := by decide +kernel
theorem d_M_digest_139 : decode b_M_digest 139 = .ok (.bipush 29, 2) := by decide +kernel
theorem d_M_digest_141 : decode b_M_digest 141 = .ok (.iload_n 3, 1) := by decide +kernel
theorem d_M_digest_142 : decode b_M_digest 142 = .ok (.iadd, 1) := by decide +kernel
theorem d_M_digest_143 : decode b_M_digest 143 = .ok (.iaload, 1) := by decide +kernel
theorem d_M_digest_144 : decode b_M_digest 144 = .ok (.i2l, 1) := by decide +kernel
theorem d_M_digest_145 : decode b_M_digest 145 = .ok (.ladd, 1) := by decide +kernel
theorem d_M_digest_146 : decode b_M_digest 146 = .ok (.lstore_n 1, 1) := by decide +kernel
theorem d_M_digest_147 : decode b_M_digest 147 = .ok (.iinc 3 1, 3) := by decide +kernel
theorem d_M_digest_150 : decode b_M_digest 150 = .ok (.goto (-26), 3) := by decide +kernel
theorem d_M_digest_153 : decode b_M_digest 153 = .ok (.ldc2_w 293, 3) := by decide +kernel
theorem d_M_digest_156 : decode b_M_digest 156 = .ok (.ldc2_w 293, 3) := by decide +kernel
theorem d_M_digest_159 : decode b_M_digest 159 = .ok (.lload_n 1, 1) := by decide +kernel
theorem d_M_digest_160 : decode b_M_digest 160 = .ok (.lmul, 1) := by decide +kernel
theorem d_M_digest_161 : decode b_M_digest 161 = .ok (.aload_n 0, 1) := by decide +kernel
theorem d_M_digest_162 : decode b_M_digest 162 = .ok (.getfield 238, 3) := by decide +kernel
theorem d_M_digest_165 : decode b_M_digest 165 = .ok (.ladd, 1) := by decide +kernel
theorem d_M_digest_166 : decode b_M_digest 166 = .ok (.lmul, 1) := by decide +kernel
theorem d_M_digest_167 : decode b_M_digest 167 = .ok (.aload_n 0, 1) := by decide +kernel
theorem d_M_digest_168 : decode b_M_digest 168 = .ok (.getfield 46, 3) := by decide +kernel
theorem d_M_digest_171 : decode b_M_digest 171 = .ok (.ladd, 1) := by decide +kernel
theorem d_M_digest_172 : decode b_M_digest 172 = .ok (.lreturn, 1) := by decide +kernel
theorem d_R_begin_0 : decode b_R_begin 0 = .ok (.aload_n 0, 1) := by decide +kernel
theorem d_R_begin_1 : decode b_R_begin 1 = .ok (.iload_n 1, 1) := by decide +kernel
theorem d_R_begin_2 : decode b_R_begin 2 = .ok (.aload_n 0, 1) := by decide +kernel
theorem d_R_begin_3 : decode b_R_begin 3 = .ok (.getfield 47, 3) := by decide +kernel
theorem d_R_begin_6 : decode b_R_begin 6 = .ok (.arraylength, 1) := by decide +kernel
theorem d_R_begin_7 : decode b_R_begin 7 = .ok (.invokestatic 65, 3) := by decide +kernel
theorem d_R_begin_10 : decode b_R_begin 10 = .ok (.putfield 22, 3) := by decide +kernel
theorem d_R_begin_13 : decode b_R_begin 13 = .ok (.aload_n 0, 1) := by decide +kernel
theorem d_R_begin_14 : decode b_R_begin 14 = .ok (.iconst 0, 1) := by decide +kernel
theorem d_R_begin_15 : decode b_R_begin 15 = .ok (.putfield 26, 3) := by decide +kernel
theorem d_R_begin_18 : decode b_R_begin 18 = .ok (.aload_n 0, 1) := by decide +kernel
theorem d_R_begin_19 : decode b_R_begin 19 = .ok (.iconst 0, 1) := by decide +kernel
theorem d_R_begin_20 : decode b_R_begin 20 = .ok (.putfield 38, 3) := by decide +kernel
theorem d_R_begin_23 : decode b_R_begin 23 = .ok (.aload_n 0, 1) := by decide +kernel
theorem d_R_begin_24 : decode b_R_begin 24 = .ok (.iconst (-1), 1) := by decide +kernel
theorem d_R_begin_25 : decode b_R_begin 25 = .ok (.putfield 41, 3) := by decide +kernel
theorem d_R_begin_28 : decode b_R_begin 28 = .ok (.aload_n 0, 1) := by decide +kernel
theorem d_R_begin_29 : decode b_R_begin 29 = .ok (.iconst (-1), 1) := by decide +kernel
theorem d_R_begin_30 : decode b_R_begin 30 = .ok (.putfield 44, 3) := by decide +kernel
theorem d_R_begin_33 : decode b_R_begin 33 = .ok (.return_, 1) := by decide +kernel
theorem d_R_numbersOf_0 : decode b_R_numbersOf 0 = .ok (.iload_n 0, 1) := by decide +kernel
theorem d_R_numbersOf_1 : decode b_R_numbersOf 1 = .ok (.lookupswitch 31 #[(5, 27), (8, 29)], 27) := by decide +kernel
theorem d_R_numbersOf_28 : decode b_R_numbersOf 28 = .ok (.iconst 4, 1) := by decide +kernel
theorem d_R_numbersOf_29 : decode b_R_numbersOf 29 = .ok (.ireturn, 1) := by decide +kernel
theorem d_R_numbersOf_30 : decode b_R_numbersOf 30 = .ok (.iconst 2, 1) := by decide +kernel
theorem d_R_numbersOf_31 : decode b_R_numbersOf 31 = .ok (.ireturn, 1) := by decide +kernel
theorem d_R_numbersOf_32 : decode b_R_numbersOf 32 = .ok (.iconst 1, 1) := by decide +kernel
theorem d_R_numbersOf_33 : decode b_R_numbersOf 33 = .ok (.ireturn, 1) := by decide +kernel
theorem d_R_tellTent_0 : decode b_R_tellTent 0 = .ok (.iload_n 1, 1) := by decide +kernel
theorem d_R_tellTent_1 : decode b_R_tellTent 1 = .ok (.invokestatic 95, 3) := by decide +kernel
theorem d_R_tellTent_4 : decode b_R_tellTent 4 = .ok (.ifCond .ne 5, 3) := by decide +kernel
theorem d_R_tellTent_7 : decode b_R_tellTent 7 = .ok (.iconst 0, 1) := by decide +kernel
theorem d_R_tellTent_8 : decode b_R_tellTent 8 = .ok (.ireturn, 1) := by decide +kernel
theorem d_R_tellTent_9 : decode b_R_tellTent 9 = .ok (.aload_n 0, 1) := by decide +kernel
theorem d_R_tellTent_10 : decode b_R_tellTent 10 = .ok (.getfield 18, 3) := by decide +kernel
theorem d_R_tellTent_13 : decode b_R_tellTent 13 = .ok (.iload_n 1, 1) := by decide +kernel
theorem d_R_tellTent_14 : decode b_R_tellTent 14 = .ok (.invokevirtual 98, 3) := by decide +kernel
theorem d_R_tellTent_17 : decode b_R_tellTent 17 = .ok (.iconst 1, 1) := by decide +kernel
theorem d_R_tellTent_18 : decode b_R_tellTent 18 = .ok (.ireturn, 1) := by decide +kernel
theorem d_R_tellPeg_0 : decode b_R_tellPeg 0 = .ok (.aload_n 0, 1) := by decide +kernel
theorem d_R_tellPeg_1 : decode b_R_tellPeg 1 = .ok (.getfield 18, 3) := by decide +kernel
theorem d_R_tellPeg_4 : decode b_R_tellPeg 4 = .ok (.iload_n 1, 1) := by decide +kernel
theorem d_R_tellPeg_5 : decode b_R_tellPeg 5 = .ok (.iload_n 2, 1) := by decide +kernel
theorem d_R_tellPeg_6 : decode b_R_tellPeg 6 = .ok (.iload_n 3, 1) := by decide +kernel
theorem d_R_tellPeg_7 : decode b_R_tellPeg 7 = .ok (.iload 4, 2) := by decide +kernel
theorem d_R_tellPeg_9 : decode b_R_tellPeg 9 = .ok (.invokevirtual 101, 3) := by decide +kernel
theorem d_R_tellPeg_12 : decode b_R_tellPeg 12 = .ok (.ifCond .ne 5, 3) := by decide +kernel
theorem d_R_tellPeg_15 : decode b_R_tellPeg 15 = .ok (.iconst 0, 1) := by decide +kernel
theorem d_R_tellPeg_16 : decode b_R_tellPeg 16 = .ok (.ireturn, 1) := by decide +kernel
theorem d_R_tellPeg_17 : decode b_R_tellPeg 17 = .ok (.aload_n 0, 1) := by decide +kernel
theorem d_R_tellPeg_18 : decode b_R_tellPeg 18 = .ok (.getfield 18, 3) := by decide +kernel
theorem d_R_tellPeg_21 : decode b_R_tellPeg 21 = .ok (.iload_n 1, 1) := by decide +kernel
theorem d_R_tellPeg_22 : decode b_R_tellPeg 22 = .ok (.iload_n 2, 1) := by decide +kernel
theorem d_R_tellPeg_23 : decode b_R_tellPeg 23 = .ok (.iload_n 3, 1) := by decide +kernel
theorem d_R_tellPeg_24 : decode b_R_tellPeg 24 = .ok (.iload 4, 2) := by decide +kernel
theorem d_R_tellPeg_26 : decode b_R_tellPeg 26 = .ok (.invokevirtual 104, 3) := by decide +kernel
theorem d_R_tellPeg_29 : decode b_R_tellPeg 29 = .ok (.iconst 1, 1) := by decide +kernel
theorem d_R_tellPeg_30 : decode b_R_tellPeg 30 = .ok (.ireturn, 1) := by decide +kernel
theorem d_R_tellWet_0 : decode b_R_tellWet 0 = .ok (.iload_n 1, 1) := by decide +kernel
theorem d_R_tellWet_1 : decode b_R_tellWet 1 = .ok (.invokestatic 108, 3) := by decide +kernel
theorem d_R_tellWet_4 : decode b_R_tellWet 4 = .ok (.ifCond .ne 5, 3) := by decide +kernel
theorem d_R_tellWet_7 : decode b_R_tellWet 7 = .ok (.iconst 0, 1) := by decide +kernel
theorem d_R_tellWet_8 : decode b_R_tellWet 8 = .ok (.ireturn, 1) := by decide +kernel
theorem d_R_tellWet_9 : decode b_R_tellWet 9 = .ok (.aload_n 0, 1) := by decide +kernel
theorem d_R_tellWet_10 : decode b_R_tellWet 10 = .ok (.getfield 18, 3) := by decide +kernel
theorem d_R_tellWet_13 : decode b_R_tellWet 13 = .ok (.iload_n 1, 1) := by decide +kernel
theorem d_R_tellWet_14 : decode b_R_tellWet 14 = .ok (.putfield 111, 3) := by decide +kernel
theorem d_R_tellWet_17 : decode b_R_tellWet 17 = .ok (.iconst 1, 1) := by decide +kernel
theorem d_R_tellWet_18 : decode b_R_tellWet 18 = .ok (.ireturn, 1) := by decide +kernel
theorem d_R_tellWall_0 : decode b_R_tellWall 0 = .ok (.iload_n 1, 1) := by decide +kernel
theorem d_R_tellWall_1 : decode b_R_tellWall 1 = .ok (.invokestatic 114, 3) := by decide +kernel
theorem d_R_tellWall_4 : decode b_R_tellWall 4 = .ok (.ifCond .eq 14, 3) := by decide +kernel
theorem d_R_tellWall_7 : decode b_R_tellWall 7 = .ok (.aload_n 0, 1) := by decide +kernel
theorem d_R_tellWall_8 : decode b_R_tellWall 8 = .ok (.getfield 18, 3) := by decide +kernel
theorem d_R_tellWall_11 : decode b_R_tellWall 11 = .ok (.iload_n 1, 1) := by decide +kernel
theorem d_R_tellWall_12 : decode b_R_tellWall 12 = .ok (.invokevirtual 117, 3) := by decide +kernel
theorem d_R_tellWall_15 : decode b_R_tellWall 15 = .ok (.ifCond .eq 5, 3) := by decide +kernel
theorem d_R_tellWall_18 : decode b_R_tellWall 18 = .ok (.iconst 0, 1) := by decide +kernel
theorem d_R_tellWall_19 : decode b_R_tellWall 19 = .ok (.ireturn, 1) := by decide +kernel
theorem d_R_tellWall_20 : decode b_R_tellWall 20 = .ok (.aload_n 0, 1) := by decide +kernel
theorem d_R_tellWall_21 : decode b_R_tellWall 21 = .ok (.getfield 18, 3) := by decide +kernel
theorem d_R_tellWall_24 : decode b_R_tellWall 24 = .ok (.iload_n 1, 1) := by decide +kernel
theorem d_R_tellWall_25 : decode b_R_tellWall 25 = .ok (.iconst 1, 1) := by decide +kernel
theorem d_R_tellWall_26 : decode b_R_tellWall 26 = .ok (.invokevirtual 120, 3) := by decide +kernel
theorem d_R_tellWall_29 : decode b_R_tellWall 29 = .ok (.iconst 1, 1) := by decide +kernel
theorem d_R_tellWall_30 : decode b_R_tellWall 30 = .ok (.ireturn, 1) := by decide +kernel
theorem d_R_tellOdds_0 : decode b_R_tellOdds 0 = .ok (.iload_n 1, 1) := by decide +kernel
theorem d_R_tellOdds_1 : decode b_R_tellOdds 1 = .ok (.iload_n 2, 1) := by decide +kernel
theorem d_R_tellOdds_2 : decode b_R_tellOdds 2 = .ok (.invokestatic 124, 3) := by decide +kernel
theorem d_R_tellOdds_5 : decode b_R_tellOdds 5 = .ok (.ifCond .ne 5, 3) := by decide +kernel
theorem d_R_tellOdds_8 : decode b_R_tellOdds 8 = .ok (.iconst 0, 1) := by decide +kernel
theorem d_R_tellOdds_9 : decode b_R_tellOdds 9 = .ok (.ireturn, 1) := by decide +kernel
theorem d_R_tellOdds_10 : decode b_R_tellOdds 10 = .ok (.aload_n 0, 1) := by decide +kernel
theorem d_R_tellOdds_11 : decode b_R_tellOdds 11 = .ok (.getfield 18, 3) := by decide +kernel
theorem d_R_tellOdds_14 : decode b_R_tellOdds 14 = .ok (.getfield 127, 3) := by decide +kernel
theorem d_R_tellOdds_17 : decode b_R_tellOdds 17 = .ok (.iload_n 1, 1) := by decide +kernel
theorem d_R_tellOdds_18 : decode b_R_tellOdds 18 = .ok (.iload_n 2, 1) := by decide +kernel
theorem d_R_tellOdds_19 : decode b_R_tellOdds 19 = .ok (.iastore, 1) := by decide +kernel
theorem d_R_tellOdds_20 : decode b_R_tellOdds 20 = .ok (.iconst 1, 1) := by decide +kernel
theorem d_R_tellOdds_21 : decode b_R_tellOdds 21 = .ok (.ireturn, 1) := by decide +kernel
theorem d_R_tellGone_0 : decode b_R_tellGone 0 = .ok (.aload_n 0, 1) := by decide +kernel
theorem d_R_tellGone_1 : decode b_R_tellGone 1 = .ok (.getfield 18, 3) := by decide +kernel
theorem d_R_tellGone_4 : decode b_R_tellGone 4 = .ok (.iload_n 1, 1) := by decide +kernel
theorem d_R_tellGone_5 : decode b_R_tellGone 5 = .ok (.invokevirtual 130, 3) := by decide +kernel
theorem d_R_tellGone_8 : decode b_R_tellGone 8 = .ok (.ifCond .eq 17, 3) := by decide +kernel
theorem d_R_tellGone_11 : decode b_R_tellGone 11 = .ok (.aload_n 0, 1) := by decide +kernel
theorem d_R_tellGone_12 : decode b_R_tellGone 12 = .ok (.getfield 18, 3) := by decide +kernel
theorem d_R_tellGone_15 : decode b_R_tellGone 15 = .ok (.getfield 133, 3) := by decide +kernel
theorem d_R_tellGone_18 : decode b_R_tellGone 18 = .ok (.iload_n 1, 1) := by decide +kernel
theorem d_R_tellGone_19 : decode b_R_tellGone 19 = .ok (.invokestatic 136, 3) := by decide +kernel
theorem d_R_tellGone_22 : decode b_R_tellGone 22 = .ok (.ifCond .ne 5, 3) := by decide +kernel
theorem d_R_tellGone_25 : decode b_R_tellGone 25 = .ok (.iconst 0, 1) := by decide +kernel
theorem d_R_tellGone_26 : decode b_R_tellGone 26 = .ok (.ireturn, 1) := by decide +kernel
theorem d_R_tellGone_27 : decode b_R_tellGone 27 = .ok (.aload_n 0, 1) := by decide +kernel
theorem d_R_tellGone_28 : decode b_R_tellGone 28 = .ok (.getfield 18, 3) := by decide +kernel
theorem d_R_tellGone_31 : decode b_R_tellGone 31 = .ok (.aload_n 0, 1) := by decide +kernel
theorem d_R_tellGone_32 : decode b_R_tellGone 32 = .ok (.getfield 18, 3) := by decide +kernel
theorem d_R_tellGone_35 : decode b_R_tellGone 35 = .ok (.getfield 133, 3) := by decide +kernel
theorem d_R_tellGone_38 : decode b_R_tellGone 38 = .ok (.iload_n 1, 1) := by decide +kernel
theorem d_R_tellGone_39 : decode b_R_tellGone 39 = .ok (.iconst 0, 1) := by decide +kernel
theorem d_R_tellGone_40 : decode b_R_tellGone 40 = .ok (.invokestatic 139, 3) := by decide +kernel
theorem d_R_tellGone_43 : decode b_R_tellGone 43 = .ok (.putfield 133, 3) := by decide +kernel
theorem d_R_tellGone_46 : decode b_R_tellGone 46 = .ok (.iconst 1, 1) := by decide +kernel
theorem d_R_tellGone_47 : decode b_R_tellGone 47 = .ok (.ireturn, 1) := by decide +kernel
theorem d_R_tell_0 : decode b_R_tell 0 = .ok (.aload_n 0, 1) := by decide +kernel
theorem d_R_tell_1 : decode b_R_tell 1 = .ok (.getfield 9, 3) := by decide +kernel
theorem d_R_tell_4 : decode b_R_tell 4 = .ok (.iconst 0, 1) := by decide +kernel
theorem d_R_tell_5 : decode b_R_tell 5 = .ok (.iaload, 1) := by decide +kernel
theorem d_R_tell_6 : decode b_R_tell 6 = .ok (.istore_n 2, 1) := by decide +kernel
theorem d_R_tell_7 : decode b_R_tell 7 = .ok (.iload_n 1, 1) := by decide +kernel
theorem d_R_tell_8 : decode b_R_tell 8 = .ok (.tableswitch 90 4 8 #[36, 42, 66, 72, 78], 36) := by decide +kernel
theorem d_R_tell_44 : decode b_R_tell 44 = .ok (.aload_n 0, 1) := by decide +kernel
theorem d_R_tell_45 : decode b_R_tell 45 = .ok (.iload_n 2, 1) := by decide +kernel
theorem d_R_tell_46 : decode b_R_tell 46 = .ok (.invokevirtual 75, 3) := by decide +kernel
theorem d_R_tell_49 : decode b_R_tell 49 = .ok (.ireturn, 1) := by decide +kernel
theorem d_R_tell_50 : decode b_R_tell 50 = .ok (.aload_n 0, 1) := by decide +kernel
theorem d_R_tell_51 : decode b_R_tell 51 = .ok (.iload_n 2, 1) := by decide +kernel
theorem d_R_tell_52 : decode b_R_tell 52 = .ok (.aload_n 0, 1) := by decide +kernel
theorem d_R_tell_53 : decode b_R_tell 53 = .ok (.getfield 9, 3) := by decide +kernel
theorem d_R_tell_56 : decode b_R_tell 56 = .ok (.iconst 1, 1) := by decide +kernel
theorem d_R_tell_57 : decode b_R_tell 57 = .ok (.iaload, 1) := by decide +kernel
theorem d_R_tell_58 : decode b_R_tell 58 = .ok (.aload_n 0, 1) := by decide +kernel
theorem d_R_tell_59 : decode b_R_tell 59 = .ok (.getfield 9, 3) := by decide +kernel
theorem d_R_tell_62 : decode b_R_tell 62 = .ok (.iconst 2, 1) := by decide +kernel
theorem d_R_tell_63 : decode b_R_tell 63 = .ok (.iaload, 1) := by decide +kernel
theorem d_R_tell_64 : decode b_R_tell 64 = .ok (.aload_n 0, 1) := by decide +kernel
theorem d_R_tell_65 : decode b_R_tell 65 = .ok (.getfield 9, 3) := by decide +kernel
theorem d_R_tell_68 : decode b_R_tell 68 = .ok (.iconst 3, 1) := by decide +kernel
theorem d_R_tell_69 : decode b_R_tell 69 = .ok (.iaload, 1) := by decide +kernel
theorem d_R_tell_70 : decode b_R_tell 70 = .ok (.invokevirtual 78, 3) := by decide +kernel
theorem d_R_tell_73 : decode b_R_tell 73 = .ok (.ireturn, 1) := by decide +kernel
theorem d_R_tell_74 : decode b_R_tell 74 = .ok (.aload_n 0, 1) := by decide +kernel
theorem d_R_tell_75 : decode b_R_tell 75 = .ok (.iload_n 2, 1) := by decide +kernel
theorem d_R_tell_76 : decode b_R_tell 76 = .ok (.invokevirtual 82, 3) := by decide +kernel
theorem d_R_tell_79 : decode b_R_tell 79 = .ok (.ireturn, 1) := by decide +kernel
theorem d_R_tell_80 : decode b_R_tell 80 = .ok (.aload_n 0, 1) := by decide +kernel
theorem d_R_tell_81 : decode b_R_tell 81 = .ok (.iload_n 2, 1) := by decide +kernel
theorem d_R_tell_82 : decode b_R_tell 82 = .ok (.invokevirtual 85, 3) := by decide +kernel
theorem d_R_tell_85 : decode b_R_tell 85 = .ok (.ireturn, 1) := by decide +kernel
theorem d_R_tell_86 : decode b_R_tell 86 = .ok (.aload_n 0, 1) := by decide +kernel
theorem d_R_tell_87 : decode b_R_tell 87 = .ok (.iload_n 2, 1) := by decide +kernel
theorem d_R_tell_88 : decode b_R_tell 88 = .ok (.aload_n 0, 1) := by decide +kernel
theorem d_R_tell_89 : decode b_R_tell 89 = .ok (.getfield 9, 3) := by decide +kernel
theorem d_R_tell_92 : decode b_R_tell 92 = .ok (.iconst 1, 1) := by decide +kernel
theorem d_R_tell_93 : decode b_R_tell 93 = .ok (.iaload, 1) := by decide +kernel
theorem d_R_tell_94 : decode b_R_tell 94 = .ok (.invokevirtual 88, 3) := by decide +kernel
theorem d_R_tell_97 : decode b_R_tell 97 = .ok (.ireturn, 1) := by decide +kernel
theorem d_R_tell_98 : decode b_R_tell 98 = .ok (.aload_n 0, 1) := by decide +kernel
theorem d_R_tell_99 : decode b_R_tell 99 = .ok (.iload_n 2, 1) := by decide +kernel
theorem d_R_tell_100 : decode b_R_tell 100 = .ok (.invokevirtual 92, 3) := by decide +kernel
theorem d_R_tell_103 : decode b_R_tell 103 = .ok (.ireturn, 1) := by decide +kernel
theorem d_R_skipBlanks_0 : decode b_R_skipBlanks 0 = .ok (.aload_n 0, 1) := by decide +kernel
theorem d_R_skipBlanks_1 : decode b_R_skipBlanks 1 = .ok (.getfield 26, 3) := by decide +kernel
theorem d_R_skipBlanks_4 : decode b_R_skipBlanks 4 = .ok (.aload_n 0, 1) := by decide +kernel
theorem d_R_skipBlanks_5 : decode b_R_skipBlanks 5 = .ok (.getfield 22, 3) := by decide +kernel
theorem d_R_skipBlanks_8 : decode b_R_skipBlanks 8 = .ok (.if_icmp .ge 30, 3) := by decide +kernel
theorem d_R_skipBlanks_11 : decode b_R_skipBlanks 11 = .ok (.aload_n 0, 1) := by decide +kernel
theorem d_R_skipBlanks_12 : decode b_R_skipBlanks 12 = .ok (.getfield 47, 3) := by decide +kernel
theorem d_R_skipBlanks_15 : decode b_R_skipBlanks 15 = .ok (.aload_n 0, 1) := by decide +kernel
theorem d_R_skipBlanks_16 : decode b_R_skipBlanks 16 = .ok (.getfield 26, 3) := by decide +kernel
theorem d_R_skipBlanks_19 : decode b_R_skipBlanks 19 = .ok (.baload, 1) := by decide +kernel
theorem d_R_skipBlanks_20 : decode b_R_skipBlanks 20 = .ok (.bipush 32, 2) := by decide +kernel
theorem d_R_skipBlanks_22 : decode b_R_skipBlanks 22 = .ok (.if_icmp .ne 16, 3) := by decide +kernel
theorem d_R_skipBlanks_25 : decode b_R_skipBlanks 25 = .ok (.aload_n 0, 1) := by decide +kernel
theorem d_R_skipBlanks_26 : decode b_R_skipBlanks 26 = .ok (.dup, 1) := by decide +kernel
theorem d_R_skipBlanks_27 : decode b_R_skipBlanks 27 = .ok (.getfield 26, 3) := by decide +kernel
theorem d_R_skipBlanks_30 : decode b_R_skipBlanks 30 = .ok (.iconst 1, 1) := by decide +kernel
theorem d_R_skipBlanks_31 : decode b_R_skipBlanks 31 = .ok (.iadd, 1) := by decide +kernel
theorem d_R_skipBlanks_32 : decode b_R_skipBlanks 32 = .ok (.putfield 26, 3) := by decide +kernel
theorem d_R_skipBlanks_35 : decode b_R_skipBlanks 35 = .ok (.goto (-35), 3) := by decide +kernel
theorem d_R_skipBlanks_38 : decode b_R_skipBlanks 38 = .ok (.return_, 1) := by decide +kernel
theorem d_R_isFigure_0 : decode b_R_isFigure 0 = .ok (.iload_n 0, 1) := by decide +kernel
theorem d_R_isFigure_1 : decode b_R_isFigure 1 = .ok (.bipush 48, 2) := by decide +kernel
theorem d_R_isFigure_3 : decode b_R_isFigure 3 = .ok (.bipush 57, 2) := by decide +kernel
theorem d_R_isFigure_5 : decode b_R_isFigure 5 = .ok (.invokestatic 175, 3) := by decide +kernel
theorem d_R_isFigure_8 : decode b_R_isFigure 8 = .ok (.ireturn, 1) := by decide +kernel
theorem d_R_stepOverNumber_0 : decode b_R_stepOverNumber 0 = .ok (.aload_n 0, 1) := by decide +kernel
theorem d_R_stepOverNumber_1 : decode b_R_stepOverNumber 1 = .ok (.iconst 0, 1) := by decide +kernel
theorem d_R_stepOverNumber_2 : decode b_R_stepOverNumber 2 = .ok (.putfield 35, 3) := by decide +kernel
theorem d_R_stepOverNumber_5 : decode b_R_stepOverNumber 5 = .ok (.aload_n 0, 1) := by decide +kernel
theorem d_R_stepOverNumber_6 : decode b_R_stepOverNumber 6 = .ok (.getfield 26, 3) := by decide +kernel
theorem d_R_stepOverNumber_9 : decode b_R_stepOverNumber 9 = .ok (.aload_n 0, 1) := by decide +kernel
theorem d_R_stepOverNumber_10 : decode b_R_stepOverNumber 10 = .ok (.getfield 22, 3) := by decide +kernel
theorem d_R_stepOverNumber_13 : decode b_R_stepOverNumber 13 = .ok (.if_icmp .ge 58, 3) := by decide +kernel
theorem d_R_stepOverNumber_16 : decode b_R_stepOverNumber 16 = .ok (.aload_n 0, 1) := by decide +kernel
theorem d_R_stepOverNumber_17 : decode b_R_stepOverNumber 17 = .ok (.getfield 47, 3) := by decide +kernel
theorem d_R_stepOverNumber_20 : decode b_R_stepOverNumber 20 = .ok (.aload_n 0, 1) := by decide +kernel
theorem d_R_stepOverNumber_21 : decode b_R_stepOverNumber 21 = .ok (.getfield 26, 3) := by decide +kernel
theorem d_R_stepOverNumber_24 : decode b_R_stepOverNumber 24 = .ok (.baload, 1) := by decide +kernel
theorem d_R_stepOverNumber_25 : decode b_R_stepOverNumber 25 = .ok (.invokestatic 153, 3) := by decide +kernel
theorem d_R_stepOverNumber_28 : decode b_R_stepOverNumber 28 = .ok (.ifCond .eq 43, 3) := by decide +kernel
theorem d_R_stepOverNumber_31 : decode b_R_stepOverNumber 31 = .ok (.aload_n 0, 1) := by decide +kernel
theorem d_R_stepOverNumber_32 : decode b_R_stepOverNumber 32 = .ok (.bipush 10, 2) := by decide +kernel
theorem d_R_stepOverNumber_34 : decode b_R_stepOverNumber 34 = .ok (.aload_n 0, 1) := by decide +kernel
theorem d_R_stepOverNumber_35 : decode b_R_stepOverNumber 35 = .ok (.getfield 35, 3) := by decide +kernel
theorem d_R_stepOverNumber_38 : decode b_R_stepOverNumber 38 = .ok (.imul, 1) := by decide +kernel
theorem d_R_stepOverNumber_39 : decode b_R_stepOverNumber 39 = .ok (.aload_n 0, 1) := by decide +kernel
theorem d_R_stepOverNumber_40 : decode b_R_stepOverNumber 40 = .ok (.getfield 47, 3) := by decide +kernel
theorem d_R_stepOverNumber_43 : decode b_R_stepOverNumber 43 = .ok (.aload_n 0, 1) := by decide +kernel
theorem d_R_stepOverNumber_44 : decode b_R_stepOverNumber 44 = .ok (.getfield 26, 3) := by decide +kernel
theorem d_R_stepOverNumber_47 : decode b_R_stepOverNumber 47 = .ok (.baload, 1) := by decide +kernel
theorem d_R_stepOverNumber_48 : decode b_R_stepOverNumber 48 = .ok (.iadd, 1) := by decide +kernel
theorem d_R_stepOverNumber_49 : decode b_R_stepOverNumber 49 = .ok (.bipush 48, 2) := by decide +kernel
theorem d_R_stepOverNumber_51 : decode b_R_stepOverNumber 51 = .ok (.isub, 1) := by decide +kernel
theorem d_R_stepOverNumber_52 : decode b_R_stepOverNumber 52 = .ok (.bipush 100, 2) := by decide +kernel
theorem d_R_stepOverNumber_54 : decode b_R_stepOverNumber 54 = .ok (.irem, 1) := by decide +kernel
theorem d_R_stepOverNumber_55 : decode b_R_stepOverNumber 55 = .ok (.putfield 35, 3) := by decide +kernel
theorem d_R_stepOverNumber_58 : decode b_R_stepOverNumber 58 = .ok (.aload_n 0, 1) := by decide +kernel
theorem d_R_stepOverNumber_59 : decode b_R_stepOverNumber 59 = .ok (.dup, 1) := by decide +kernel
theorem d_R_stepOverNumber_60 : decode b_R_stepOverNumber 60 = .ok (.getfield 26, 3) := by decide +kernel
theorem d_R_stepOverNumber_63 : decode b_R_stepOverNumber 63 = .ok (.iconst 1, 1) := by decide +kernel
theorem d_R_stepOverNumber_64 : decode b_R_stepOverNumber 64 = .ok (.iadd, 1) := by decide +kernel
theorem d_R_stepOverNumber_65 : decode b_R_stepOverNumber 65 = .ok (.putfield 26, 3) := by decide +kernel
theorem d_R_stepOverNumber_68 : decode b_R_stepOverNumber 68 = .ok (.goto (-63), 3) := by decide +kernel
theorem d_R_stepOverNumber_71 : decode b_R_stepOverNumber 71 = .ok (.aload_n 0, 1) := by decide +kernel
theorem d_R_stepOverNumber_72 : decode b_R_stepOverNumber 72 = .ok (.aload_n 0, 1) := by decide +kernel
theorem d_R_stepOverNumber_73 : decode b_R_stepOverNumber 73 = .ok (.getfield 26, 3) := by decide +kernel
theorem d_R_stepOverNumber_76 : decode b_R_stepOverNumber 76 = .ok (.aload_n 0, 1) := by decide +kernel
theorem d_R_stepOverNumber_77 : decode b_R_stepOverNumber 77 = .ok (.getfield 29, 3) := by decide +kernel
theorem d_R_stepOverNumber_80 : decode b_R_stepOverNumber 80 = .ok (.isub, 1) := by decide +kernel
theorem d_R_stepOverNumber_81 : decode b_R_stepOverNumber 81 = .ok (.iconst 2, 1) := by decide +kernel
theorem d_R_stepOverNumber_82 : decode b_R_stepOverNumber 82 = .ok (.if_icmp .gt 7, 3) := by decide +kernel
theorem d_R_stepOverNumber_85 : decode b_R_stepOverNumber 85 = .ok (.iconst 2, 1) := by decide +kernel
theorem d_R_stepOverNumber_86 : decode b_R_stepOverNumber 86 = .ok (.goto 4, 3) := by decide +kernel
theorem d_R_stepOverNumber_89 : decode b_R_stepOverNumber 89 = .ok (.iconst 0, 1) := by decide +kernel
theorem d_R_stepOverNumber_90 : decode b_R_stepOverNumber 90 = .ok (.putfield 32, 3) := by decide +kernel
theorem d_R_stepOverNumber_93 : decode b_R_stepOverNumber 93 = .ok (.return_, 1) := by decide +kernel
theorem d_R_isLetter_0 : decode b_R_isLetter 0 = .ok (.iload_n 0, 1) := by decide +kernel
theorem d_R_isLetter_1 : decode b_R_isLetter 1 = .ok (.bipush 97, 2) := by decide +kernel
theorem d_R_isLetter_3 : decode b_R_isLetter 3 = .ok (.bipush 122, 2) := by decide +kernel
theorem d_R_isLetter_5 : decode b_R_isLetter 5 = .ok (.invokestatic 175, 3) := by decide +kernel
theorem d_R_isLetter_8 : decode b_R_isLetter 8 = .ok (.ireturn, 1) := by decide +kernel
