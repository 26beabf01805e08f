theorem dX0_init_0 : decode cX0_init 0 = .ok (.aload_n 0, 1) := by decide +kernel
theorem dX0_init_1 : decode cX0_init 1 = .ok (.iload_n 1, 1) := by decide +kernel
theorem dX0_init_2 : decode cX0_init 2 = .ok (.invokespecial 1, 3) := by decide +kernel
theorem dX0_init_5 : decode cX0_init 5 = .ok (.aload_n 0, 1) := by decide +kernel
theorem dX0_init_6 : decode cX0_init 6 = .ok (.iload_n 1, 1) := by decide +kernel
theorem dX0_init_7 : decode cX0_init 7 = .ok (.newarray .byte, 2) := by decide +kernel
theorem dX0_init_9 : decode cX0_init 9 = .ok (.putfield 7, 3) := by decide +kernel
theorem dX0_init_12 : decode cX0_init 12 = .ok (.return_, 1) := by decide +kernel
theorem dX0_valueAt_0 : decode cX0_valueAt 0 = .ok (.aload_n 0, 1) := by decide +kernel
theorem dX0_valueAt_1 : decode cX0_valueAt 1 = .ok (.getfield 7, 3) := by decide +kernel
theorem dX0_valueAt_4 : decode cX0_valueAt 4 = .ok (.iload_n 1, 1) := by decide +kernel
theorem dX0_valueAt_5 : decode cX0_valueAt 5 = .ok (.baload, 1) := by decide +kernel
theorem dX0_valueAt_6 : decode cX0_valueAt 6 = .ok (.ireturn, 1) := by decide +kernel
theorem dX0_put_0 : decode cX0_put 0 = .ok (.aload_n 0, 1) := by decide +kernel
theorem dX0_put_1 : decode cX0_put 1 = .ok (.getfield 7, 3) := by decide +kernel
theorem dX0_put_4 : decode cX0_put 4 = .ok (.iload_n 1, 1) := by decide +kernel
theorem dX0_put_5 : decode cX0_put 5 = .ok (.iload_n 2, 1) := by decide +kernel
theorem dX0_put_6 : decode cX0_put 6 = .ok (.i2b, 1) := by decide +kernel
theorem dX0_put_7 : decode cX0_put 7 = .ok (.bastore, 1) := by decide +kernel
theorem dX0_put_8 : decode cX0_put 8 = .ok (.iconst 1, 1) := by decide +kernel
theorem dX0_put_9 : decode cX0_put 9 = .ok (.ireturn, 1) := by decide +kernel
theorem dX0_alter_0 : decode cX0_alter 0 = .ok (.aload_n 0, 1) := by decide +kernel
theorem dX0_alter_1 : decode cX0_alter 1 = .ok (.getfield 7, 3) := by decide +kernel
theorem dX0_alter_4 : decode cX0_alter 4 = .ok (.iload_n 1, 1) := by decide +kernel
theorem dX0_alter_5 : decode cX0_alter 5 = .ok (.aload_n 0, 1) := by decide +kernel
theorem dX0_alter_6 : decode cX0_alter 6 = .ok (.getfield 7, 3) := by decide +kernel
theorem dX0_alter_9 : decode cX0_alter 9 = .ok (.iload_n 1, 1) := by decide +kernel
theorem dX0_alter_10 : decode cX0_alter 10 = .ok (.baload, 1) := by decide +kernel
theorem dX0_alter_11 : decode cX0_alter 11 = .ok (.iload_n 2, 1) := by decide +kernel
theorem dX0_alter_12 : decode cX0_alter 12 = .ok (.isub, 1) := by decide +kernel
theorem dX0_alter_13 : decode cX0_alter 13 = .ok (.i2b, 1) := by decide +kernel
theorem dX0_alter_14 : decode cX0_alter 14 = .ok (.bastore, 1) := by decide +kernel
theorem dX0_alter_15 : decode cX0_alter 15 = .ok (.iconst 1, 1) := by decide +kernel
theorem dX0_alter_16 : decode cX0_alter 16 = .ok (.ireturn, 1) := by decide +kernel
theorem dX1_init_0 : decode cX1_init 0 = .ok (.aload_n 0, 1) := by decide +kernel
theorem dX1_init_1 : decode cX1_init 1 = .ok (.invokespecial 1, 3) := by decide +kernel
theorem dX1_init_4 : decode cX1_init 4 = .ok (.aload_n 0, 1) := by decide +kernel
theorem dX1_init_5 : decode cX1_init 5 = .ok (.iload_n 1, 1) := by decide +kernel
theorem dX1_init_6 : decode cX1_init 6 = .ok (.putfield 7, 3) := by decide +kernel
theorem dX1_init_9 : decode cX1_init 9 = .ok (.aload_n 0, 1) := by decide +kernel
theorem dX1_init_10 : decode cX1_init 10 = .ok (.iload_n 2, 1) := by decide +kernel
theorem dX1_init_11 : decode cX1_init 11 = .ok (.anewarray 13, 3) := by decide +kernel
theorem dX1_init_14 : decode cX1_init 14 = .ok (.putfield 15, 3) := by decide +kernel
theorem dX1_init_17 : decode cX1_init 17 = .ok (.return_, 1) := by decide +kernel
theorem dX1_tell_0 : decode cX1_tell 0 = .ok (.iload_n 1, 1) := by decide +kernel
theorem dX1_tell_1 : decode cX1_tell 1 = .ok (.tableswitch 43 0 2 #[27, 32, 38], 27) := by decide +kernel
theorem dX1_tell_28 : decode cX1_tell 28 = .ok (.aload_n 0, 1) := by decide +kernel
theorem dX1_tell_29 : decode cX1_tell 29 = .ok (.getfield 7, 3) := by decide +kernel
theorem dX1_tell_32 : decode cX1_tell 32 = .ok (.ireturn, 1) := by decide +kernel
theorem dX1_tell_33 : decode cX1_tell 33 = .ok (.aload_n 0, 1) := by decide +kernel
theorem dX1_tell_34 : decode cX1_tell 34 = .ok (.getfield 15, 3) := by decide +kernel
theorem dX1_tell_37 : decode cX1_tell 37 = .ok (.arraylength, 1) := by decide +kernel
theorem dX1_tell_38 : decode cX1_tell 38 = .ok (.ireturn, 1) := by decide +kernel
theorem dX1_tell_39 : decode cX1_tell 39 = .ok (.aload_n 0, 1) := by decide +kernel
theorem dX1_tell_40 : decode cX1_tell 40 = .ok (.invokevirtual 19, 3) := by decide +kernel
theorem dX1_tell_43 : decode cX1_tell 43 = .ok (.ireturn, 1) := by decide +kernel
theorem dX1_tell_44 : decode cX1_tell 44 = .ok (.aload_n 0, 1) := by decide +kernel
theorem dX1_tell_45 : decode cX1_tell 45 = .ok (.invokevirtual 23, 3) := by decide +kernel
theorem dX1_tell_48 : decode cX1_tell 48 = .ok (.ireturn, 1) := by decide +kernel
theorem dX1_countLacking_0 : decode cX1_countLacking 0 = .ok (.iconst 0, 1) := by decide +kernel
theorem dX1_countLacking_1 : decode cX1_countLacking 1 = .ok (.istore_n 1, 1) := by decide +kernel
theorem dX1_countLacking_2 : decode cX1_countLacking 2 = .ok (.iconst 0, 1) := by decide +kernel
theorem dX1_countLacking_3 : decode cX1_countLacking 3 = .ok (.istore_n 2, 1) := by decide +kernel
theorem dX1_countLacking_4 : decode cX1_countLacking 4 = .ok (.iload_n 2, 1) := by decide +kernel
theorem dX1_countLacking_5 : decode cX1_countLacking 5 = .ok (.aload_n 0, 1) := by decide +kernel
theorem dX1_countLacking_6 : decode cX1_countLacking 6 = .ok (.getfield 15, 3) := by decide +kernel
theorem dX1_countLacking_9 : decode cX1_countLacking 9 = .ok (.arraylength, 1) := by decide +kernel
theorem dX1_countLacking_10 : decode cX1_countLacking 10 = .ok (.if_icmp .ge 21, 3) := by decide +kernel
theorem dX1_countLacking_13 : decode cX1_countLacking 13 = .ok (.aload_n 0, 1) := by decide +kernel
theorem dX1_countLacking_14 : decode cX1_countLacking 14 = .ok (.getfield 15, 3) := by decide +kernel
theorem dX1_countLacking_17 : decode cX1_countLacking 17 = .ok (.iload_n 2, 1) := by decide +kernel
theorem dX1_countLacking_18 : decode cX1_countLacking 18 = .ok (.aaload, 1) := by decide +kernel
theorem dX1_countLacking_19 : decode cX1_countLacking 19 = .ok (.ifnonnull 6, 3) := by decide +kernel
theorem dX1_countLacking_22 : decode cX1_countLacking 22 = .ok (.iinc 1 1, 3) := by decide +kernel
theorem dX1_countLacking_25 : decode cX1_countLacking 25 = .ok (.iinc 2 1, 3) := by decide +kernel
theorem dX1_countLacking_28 : decode cX1_countLacking 28 = .ok (.goto (-24), 3) := by decide +kernel
theorem dX1_countLacking_31 : decode cX1_countLacking 31 = .ok (.iload_n 1, 1) := by decide +kernel
theorem dX1_countLacking_32 : decode cX1_countLacking 32 = .ok (.ireturn, 1) := by decide +kernel
theorem dX1_countPlaces_0 : decode cX1_countPlaces 0 = .ok (.iconst 0, 1) := by decide +kernel
theorem dX1_countPlaces_1 : decode cX1_countPlaces 1 = .ok (.istore_n 1, 1) := by decide +kernel
theorem dX1_countPlaces_2 : decode cX1_countPlaces 2 = .ok (.iconst 0, 1) := by decide +kernel
theorem dX1_countPlaces_3 : decode cX1_countPlaces 3 = .ok (.istore_n 2, 1) := by decide +kernel
theorem dX1_countPlaces_4 : decode cX1_countPlaces 4 = .ok (.iload_n 2, 1) := by decide +kernel
theorem dX1_countPlaces_5 : decode cX1_countPlaces 5 = .ok (.aload_n 0, 1) := by decide +kernel
theorem dX1_countPlaces_6 : decode cX1_countPlaces 6 = .ok (.getfield 15, 3) := by decide +kernel
theorem dX1_countPlaces_9 : decode cX1_countPlaces 9 = .ok (.arraylength, 1) := by decide +kernel
theorem dX1_countPlaces_10 : decode cX1_countPlaces 10 = .ok (.if_icmp .ge 27, 3) := by decide +kernel
theorem dX1_countPlaces_13 : decode cX1_countPlaces 13 = .ok (.aload_n 0, 1) := by decide +kernel
theorem dX1_countPlaces_14 : decode cX1_countPlaces 14 = .ok (.getfield 15, 3) := by decide +kernel
theorem dX1_countPlaces_17 : decode cX1_countPlaces 17 = .ok (.iload_n 2, 1) := by decide +kernel
theorem dX1_countPlaces_18 : decode cX1_countPlaces 18 = .ok (.aaload, 1) := by decide +kernel
theorem dX1_countPlaces_19 : decode cX1_countPlaces 19 = .ok (.astore_n 3, 1) := by decide +kernel
theorem dX1_countPlaces_20 : decode cX1_countPlaces 20 = .ok (.aload_n 3, 1) := by decide +kernel
theorem dX1_countPlaces_21 : decode cX1_countPlaces 21 = .ok (.ifnull 10, 3) := by decide +kernel
theorem dX1_countPlaces_24 : decode cX1_countPlaces 24 = .ok (.iload_n 1, 1) := by decide +kernel
theorem dX1_countPlaces_25 : decode cX1_countPlaces 25 = .ok (.aload_n 3, 1) := by decide +kernel
theorem dX1_countPlaces_26 : decode cX1_countPlaces 26 = .ok (.getfield 26, 3) := by decide +kernel
theorem dX1_countPlaces_29 : decode cX1_countPlaces 29 = .ok (.iadd, 1) := by decide +kernel
theorem dX1_countPlaces_30 : decode cX1_countPlaces 30 = .ok (.istore_n 1, 1) := by decide +kernel
theorem dX1_countPlaces_31 : decode cX1_countPlaces 31 = .ok (.iinc 2 1, 3) := by decide +kernel
theorem dX1_countPlaces_34 : decode cX1_countPlaces 34 = .ok (.goto (-30), 3) := by decide +kernel
theorem dX1_countPlaces_37 : decode cX1_countPlaces 37 = .ok (.iload_n 1, 1) := by decide +kernel
theorem dX1_countPlaces_38 : decode cX1_countPlaces 38 = .ok (.ireturn, 1) := by decide +kernel
theorem dX2_init_0 : decode cX2_init 0 = .ok (.aload_n 0, 1) := by decide +kernel
theorem dX2_init_1 : decode cX2_init 1 = .ok (.invokespecial 3, 3) := by decide +kernel
theorem dX2_init_4 : decode cX2_init 4 = .ok (.aload_n 0, 1) := by decide +kernel
theorem dX2_init_5 : decode cX2_init 5 = .ok (.iconst 5, 1) := by decide +kernel
theorem dX2_init_6 : decode cX2_init 6 = .ok (.anewarray 9, 3) := by decide +kernel
theorem dX2_init_9 : decode cX2_init 9 = .ok (.putfield 11, 3) := by decide +kernel
theorem dX2_init_12 : decode cX2_init 12 = .ok (.return_, 1) := by decide +kernel
theorem dX2_playOn_0 : decode cX2_playOn 0 = .ok (.aload_n 0, 1) := by decide +kernel
theorem dX2_playOn_1 : decode cX2_playOn 1 = .ok (.getfield 17, 3) := by decide +kernel
theorem dX2_playOn_4 : decode cX2_playOn 4 = .ok (.istore_n 2, 1) := by decide +kernel
theorem dX2_playOn_5 : decode cX2_playOn 5 = .ok (.iconst 0, 1) := by decide +kernel
theorem dX2_playOn_6 : decode cX2_playOn 6 = .ok (.istore_n 3, 1) := by decide +kernel
theorem dX2_playOn_7 : decode cX2_playOn 7 = .ok (.iload_n 3, 1) := by decide +kernel
theorem dX2_playOn_8 : decode cX2_playOn 8 = .ok (.iload_n 1, 1) := by decide +kernel
theorem dX2_playOn_9 : decode cX2_playOn 9 = .ok (.if_icmp .ge 38, 3) := by decide +kernel
theorem dX2_playOn_12 : decode cX2_playOn 12 = .ok (.aload_n 0, 1) := by decide +kernel
theorem dX2_playOn_13 : decode cX2_playOn 13 = .ok (.aload_n 0, 1) := by decide +kernel
theorem dX2_playOn_14 : decode cX2_playOn 14 = .ok (.getfield 21, 3) := by decide +kernel
theorem dX2_playOn_17 : decode cX2_playOn 17 = .ok (.invokevirtual 24, 3) := by decide +kernel
theorem dX2_playOn_20 : decode cX2_playOn 20 = .ok (.ifCond .eq 27, 3) := by decide +kernel
theorem dX2_playOn_23 : decode cX2_playOn 23 = .ok (.aload_n 0, 1) := by decide +kernel
theorem dX2_playOn_24 : decode cX2_playOn 24 = .ok (.aload_n 0, 1) := by decide +kernel
theorem dX2_playOn_25 : decode cX2_playOn 25 = .ok (.getfield 21, 3) := by decide +kernel
theorem dX2_playOn_28 : decode cX2_playOn 28 = .ok (.invokevirtual 28, 3) := by decide +kernel
theorem dX2_playOn_31 : decode cX2_playOn 31 = .ok (.aload_n 0, 1) := by decide +kernel
theorem dX2_playOn_32 : decode cX2_playOn 32 = .ok (.dup, 1) := by decide +kernel
theorem dX2_playOn_33 : decode cX2_playOn 33 = .ok (.getfield 21, 3) := by decide +kernel
theorem dX2_playOn_36 : decode cX2_playOn 36 = .ok (.iconst 1, 1) := by decide +kernel
theorem dX2_playOn_37 : decode cX2_playOn 37 = .ok (.iadd, 1) := by decide +kernel
theorem dX2_playOn_38 : decode cX2_playOn 38 = .ok (.putfield 21, 3) := by decide +kernel
theorem dX2_playOn_41 : decode cX2_playOn 41 = .ok (.iinc 3 1, 3) := by decide +kernel
theorem dX2_playOn_44 : decode cX2_playOn 44 = .ok (.goto (-37), 3) := by decide +kernel
theorem dX2_playOn_47 : decode cX2_playOn 47 = .ok (.aload_n 0, 1) := by decide +kernel
theorem dX2_playOn_48 : decode cX2_playOn 48 = .ok (.getfield 17, 3) := by decide +kernel
theorem dX2_playOn_51 : decode cX2_playOn 51 = .ok (.iload_n 2, 1) := by decide +kernel
theorem dX2_playOn_52 : decode cX2_playOn 52 = .ok (.isub, 1) := by decide +kernel
theorem dX2_playOn_53 : decode cX2_playOn 53 = .ok (.ireturn, 1) := by decide +kernel
theorem dX2_someTrackHas_0 : decode cX2_someTrackHas 0 = .ok (.iconst 0, 1) := by decide +kernel
theorem dX2_someTrackHas_1 : decode cX2_someTrackHas 1 = .ok (.istore_n 2, 1) := by decide +kernel
theorem dX2_someTrackHas_2 : decode cX2_someTrackHas 2 = .ok (.iload_n 2, 1) := by decide +kernel
theorem dX2_someTrackHas_3 : decode cX2_someTrackHas 3 = .ok (.iconst 5, 1) := by decide +kernel
theorem dX2_someTrackHas_4 : decode cX2_someTrackHas 4 = .ok (.if_icmp .ge 30, 3) := by decide +kernel
theorem dX2_someTrackHas_7 : decode cX2_someTrackHas 7 = .ok (.aload_n 0, 1) := by decide +kernel
theorem dX2_someTrackHas_8 : decode cX2_someTrackHas 8 = .ok (.getfield 11, 3) := by decide +kernel
theorem dX2_someTrackHas_11 : decode cX2_someTrackHas 11 = .ok (.iload_n 2, 1) := by decide +kernel
theorem dX2_someTrackHas_12 : decode cX2_someTrackHas 12 = .ok (.aaload, 1) := by decide +kernel
theorem dX2_someTrackHas_13 : decode cX2_someTrackHas 13 = .ok (.astore_n 3, 1) := by decide +kernel
theorem dX2_someTrackHas_14 : decode cX2_someTrackHas 14 = .ok (.aload_n 3, 1) := by decide +kernel
theorem dX2_someTrackHas_15 : decode cX2_someTrackHas 15 = .ok (.ifnull 13, 3) := by decide +kernel
theorem dX2_someTrackHas_18 : decode cX2_someTrackHas 18 = .ok (.aload_n 3, 1) := by decide +kernel
theorem dX2_someTrackHas_19 : decode cX2_someTrackHas 19 = .ok (.iload_n 1, 1) := by decide +kernel
theorem dX2_someTrackHas_20 : decode cX2_someTrackHas 20 = .ok (.invokevirtual 32, 3) := by decide +kernel
theorem dX2_someTrackHas_23 : decode cX2_someTrackHas 23 = .ok (.ifCond .eq 5, 3) := by decide +kernel
theorem dX2_someTrackHas_26 : decode cX2_someTrackHas 26 = .ok (.iconst 1, 1) := by decide +kernel
theorem dX2_someTrackHas_27 : decode cX2_someTrackHas 27 = .ok (.ireturn, 1) := by decide +kernel
theorem dX2_someTrackHas_28 : decode cX2_someTrackHas 28 = .ok (.iinc 2 1, 3) := by decide +kernel
theorem dX2_someTrackHas_31 : decode cX2_someTrackHas 31 = .ok (.goto (-29), 3) := by decide +kernel
theorem dX2_someTrackHas_34 : decode cX2_someTrackHas 34 = .ok (.iconst 0, 1) := by decide +kernel
theorem dX2_someTrackHas_35 : decode cX2_someTrackHas 35 = .ok (.ireturn, 1) := by decide +kernel
theorem dX2_playPlace_0 : decode cX2_playPlace 0 = .ok (.aload_n 0, 1) := by decide +kernel
theorem dX2_playPlace_1 : decode cX2_playPlace 1 = .ok (.iconst 0, 1) := by decide +kernel
theorem dX2_playPlace_2 : decode cX2_playPlace 2 = .ok (.iload_n 1, 1) := by decide +kernel
theorem dX2_playPlace_3 : decode cX2_playPlace 3 = .ok (.iconst 1, 1) := by decide +kernel
theorem dX2_playPlace_4 : decode cX2_playPlace 4 = .ok (.invokevirtual 35, 3) := by decide +kernel
theorem dX2_playPlace_7 : decode cX2_playPlace 7 = .ok (.istore_n 2, 1) := by decide +kernel
theorem dX2_playPlace_8 : decode cX2_playPlace 8 = .ok (.aload_n 0, 1) := by decide +kernel
theorem dX2_playPlace_9 : decode cX2_playPlace 9 = .ok (.iconst 1, 1) := by decide +kernel
theorem dX2_playPlace_10 : decode cX2_playPlace 10 = .ok (.iload_n 1, 1) := by decide +kernel
theorem dX2_playPlace_11 : decode cX2_playPlace 11 = .ok (.bipush 60, 2) := by decide +kernel
theorem dX2_playPlace_13 : decode cX2_playPlace 13 = .ok (.invokevirtual 35, 3) := by decide +kernel
theorem dX2_playPlace_16 : decode cX2_playPlace 16 = .ok (.istore_n 3, 1) := by decide +kernel
theorem dX2_playPlace_17 : decode cX2_playPlace 17 = .ok (.aload_n 0, 1) := by decide +kernel
theorem dX2_playPlace_18 : decode cX2_playPlace 18 = .ok (.iconst 2, 1) := by decide +kernel
theorem dX2_playPlace_19 : decode cX2_playPlace 19 = .ok (.iload_n 1, 1) := by decide +kernel
theorem dX2_playPlace_20 : decode cX2_playPlace 20 = .ok (.iconst 1, 1) := by decide +kernel
theorem dX2_playPlace_21 : decode cX2_playPlace 21 = .ok (.invokevirtual 35, 3) := by decide +kernel
theorem dX2_playPlace_24 : decode cX2_playPlace 24 = .ok (.istore 4, 2) := by decide +kernel
theorem dX2_playPlace_26 : decode cX2_playPlace 26 = .ok (.aload_n 0, 1) := by decide +kernel
theorem dX2_playPlace_27 : decode cX2_playPlace 27 = .ok (.iload_n 1, 1) := by decide +kernel
theorem dX2_playPlace_28 : decode cX2_playPlace 28 = .ok (.invokevirtual 39, 3) := by decide +kernel
theorem dX2_playPlace_31 : decode cX2_playPlace 31 = .ok (.fstore 5, 2) := by decide +kernel
theorem dX2_playPlace_33 : decode cX2_playPlace 33 = .ok (.aload_n 0, 1) := by decide +kernel
theorem dX2_playPlace_34 : decode cX2_playPlace 34 = .ok (.iconst 4, 1) := by decide +kernel
theorem dX2_playPlace_35 : decode cX2_playPlace 35 = .ok (.iload_n 1, 1) := by decide +kernel
theorem dX2_playPlace_36 : decode cX2_playPlace 36 = .ok (.iconst 0, 1) := by decide +kernel
theorem dX2_playPlace_37 : decode cX2_playPlace 37 = .ok (.invokevirtual 35, 3) := by decide +kernel
theorem dX2_playPlace_40 : decode cX2_playPlace 40 = .ok (.istore 6, 2) := by decide +kernel
theorem dX2_playPlace_42 : decode cX2_playPlace 42 = .ok (.aload_n 0, 1) := by decide +kernel
theorem dX2_playPlace_43 : decode cX2_playPlace 43 = .ok (.dup, 1) := by decide +kernel
theorem dX2_playPlace_44 : decode cX2_playPlace 44 = .ok (.getfield 43, 3) := by decide +kernel
theorem dX2_playPlace_47 : decode cX2_playPlace 47 = .ok (.iconst 1, 1) := by decide +kernel
theorem dX2_playPlace_48 : decode cX2_playPlace 48 = .ok (.iadd, 1) := by decide +kernel
theorem dX2_playPlace_49 : decode cX2_playPlace 49 = .ok (.putfield 43, 3) := by decide +kernel
theorem dX2_playPlace_52 : decode cX2_playPlace 52 = .ok (.iload_n 2, 1) := by decide +kernel
theorem dX2_playPlace_53 : decode cX2_playPlace 53 = .ok (.iconst 1, 1) := by decide +kernel
theorem dX2_playPlace_54 : decode cX2_playPlace 54 = .ok (.if_icmp .ne 15, 3) := by decide +kernel
theorem dX2_playPlace_57 : decode cX2_playPlace 57 = .ok (.aload_n 0, 1) := by decide +kernel
theorem dX2_playPlace_58 : decode cX2_playPlace 58 = .ok (.iload_n 3, 1) := by decide +kernel
theorem dX2_playPlace_59 : decode cX2_playPlace 59 = .ok (.iload 6, 2) := by decide +kernel
theorem dX2_playPlace_61 : decode cX2_playPlace 61 = .ok (.iadd, 1) := by decide +kernel
theorem dX2_playPlace_62 : decode cX2_playPlace 62 = .ok (.iload 4, 2) := by decide +kernel
theorem dX2_playPlace_64 : decode cX2_playPlace 64 = .ok (.fload 5, 2) := by decide +kernel
theorem dX2_playPlace_66 : decode cX2_playPlace 66 = .ok (.invokevirtual 46, 3) := by decide +kernel
theorem dX2_playPlace_69 : decode cX2_playPlace 69 = .ok (.return_, 1) := by decide +kernel
theorem dX2_ask_0 : decode cX2_ask 0 = .ok (.aload_n 0, 1) := by decide +kernel
theorem dX2_ask_1 : decode cX2_ask 1 = .ok (.getfield 11, 3) := by decide +kernel
theorem dX2_ask_4 : decode cX2_ask 4 = .ok (.iload_n 1, 1) := by decide +kernel
theorem dX2_ask_5 : decode cX2_ask 5 = .ok (.aaload, 1) := by decide +kernel
theorem dX2_ask_6 : decode cX2_ask 6 = .ok (.astore 4, 2) := by decide +kernel
theorem dX2_ask_8 : decode cX2_ask 8 = .ok (.aload 4, 2) := by decide +kernel
theorem dX2_ask_10 : decode cX2_ask 10 = .ok (.ifnull 19, 3) := by decide +kernel
theorem dX2_ask_13 : decode cX2_ask 13 = .ok (.aload 4, 2) := by decide +kernel
theorem dX2_ask_15 : decode cX2_ask 15 = .ok (.iload_n 2, 1) := by decide +kernel
theorem dX2_ask_16 : decode cX2_ask 16 = .ok (.invokevirtual 32, 3) := by decide +kernel
theorem dX2_ask_19 : decode cX2_ask 19 = .ok (.ifCond .eq 10, 3) := by decide +kernel
theorem dX2_ask_22 : decode cX2_ask 22 = .ok (.aload 4, 2) := by decide +kernel
theorem dX2_ask_24 : decode cX2_ask 24 = .ok (.iload_n 2, 1) := by decide +kernel
theorem dX2_ask_25 : decode cX2_ask 25 = .ok (.invokevirtual 50, 3) := by decide +kernel
theorem dX2_ask_28 : decode cX2_ask 28 = .ok (.ireturn, 1) := by decide +kernel
theorem dX2_ask_29 : decode cX2_ask 29 = .ok (.aload_n 0, 1) := by decide +kernel
theorem dX2_ask_30 : decode cX2_ask 30 = .ok (.dup, 1) := by decide +kernel
theorem dX2_ask_31 : decode cX2_ask 31 = .ok (.getfield 54, 3) := by decide +kernel
theorem dX2_ask_34 : decode cX2_ask 34 = .ok (.iconst 1, 1) := by decide +kernel
theorem dX2_ask_35 : decode cX2_ask 35 = .ok (.iadd, 1) := by decide +kernel
theorem dX2_ask_36 : decode cX2_ask 36 = .ok (.putfield 54, 3) := by decide +kernel
theorem dX2_ask_39 : decode cX2_ask 39 = .ok (.iload_n 3, 1) := by decide +kernel
theorem dX2_ask_40 : decode cX2_ask 40 = .ok (.ireturn, 1) := by decide +kernel
theorem dX2_askLevel_0 : decode cX2_askLevel 0 = .ok (.aload_n 0, 1) := by decide +kernel
theorem dX2_askLevel_1 : decode cX2_askLevel 1 = .ok (.getfield 11, 3) := by decide +kernel
theorem dX2_askLevel_4 : decode cX2_askLevel 4 = .ok (.iconst 3, 1) := by decide +kernel
theorem dX2_askLevel_5 : decode cX2_askLevel 5 = .ok (.aaload, 1) := by decide +kernel
theorem dX2_askLevel_6 : decode cX2_askLevel 6 = .ok (.astore_n 3, 1) := by decide +kernel
theorem dX2_askLevel_7 : decode cX2_askLevel 7 = .ok (.aload_n 3, 1) := by decide +kernel
theorem dX2_askLevel_8 : decode cX2_askLevel 8 = .ok (.instanceof 57, 3) := by decide +kernel
theorem dX2_askLevel_11 : decode cX2_askLevel 11 = .ok (.ifCond .eq 22, 3) := by decide +kernel
theorem dX2_askLevel_14 : decode cX2_askLevel 14 = .ok (.aload_n 3, 1) := by decide +kernel
theorem dX2_askLevel_15 : decode cX2_askLevel 15 = .ok (.checkcast 57, 3) := by decide +kernel
theorem dX2_askLevel_18 : decode cX2_askLevel 18 = .ok (.astore_n 2, 1) := by decide +kernel
theorem dX2_askLevel_19 : decode cX2_askLevel 19 = .ok (.aload_n 2, 1) := by decide +kernel
theorem dX2_askLevel_20 : decode cX2_askLevel 20 = .ok (.iload_n 1, 1) := by decide +kernel
theorem dX2_askLevel_21 : decode cX2_askLevel 21 = .ok (.invokevirtual 59, 3) := by decide +kernel
theorem dX2_askLevel_24 : decode cX2_askLevel 24 = .ok (.ifCond .eq 9, 3) := by decide +kernel
theorem dX2_askLevel_27 : decode cX2_askLevel 27 = .ok (.aload_n 2, 1) := by decide +kernel
theorem dX2_askLevel_28 : decode cX2_askLevel 28 = .ok (.iload_n 1, 1) := by decide +kernel
theorem dX2_askLevel_29 : decode cX2_askLevel 29 = .ok (.invokevirtual 60, 3) := by decide +kernel
theorem dX2_askLevel_32 : decode cX2_askLevel 32 = .ok (.freturn, 1) := by decide +kernel
theorem dX2_askLevel_33 : decode cX2_askLevel 33 = .ok (.aload_n 0, 1) := by decide +kernel
theorem dX2_askLevel_34 : decode cX2_askLevel 34 = .ok (.dup, 1) := by decide +kernel
theorem dX2_askLevel_35 : decode cX2_askLevel 35 = .ok (.getfield 54, 3) := by decide +kernel
theorem dX2_askLevel_38 : decode cX2_askLevel 38 = .ok (.iconst 1, 1) := by decide +kernel
theorem dX2_askLevel_39 : decode cX2_askLevel 39 = .ok (.iadd, 1) := by decide +kernel
theorem dX2_askLevel_40 : decode cX2_askLevel 40 = .ok (.putfield 54, 3) := by decide +kernel
theorem dX2_askLevel_43 : decode cX2_askLevel 43 = .ok (.fconst 1, 1) := by decide +kernel
theorem dX2_askLevel_44 : decode cX2_askLevel 44 = .ok (.freturn, 1) := by decide +kernel
theorem dX2_sound_0 : decode cX2_sound 0 = .ok (.aload_n 0, 1) := by decide +kernel
theorem dX2_sound_1 : decode cX2_sound 1 = .ok (.getfield 17, 3) := by decide +kernel
theorem dX2_sound_4 : decode cX2_sound 4 = .ok (.ifCond .eq 11, 3) := by decide +kernel
theorem dX2_sound_7 : decode cX2_sound 7 = .ok (.iload_n 1, 1) := by decide +kernel
theorem dX2_sound_8 : decode cX2_sound 8 = .ok (.aload_n 0, 1) := by decide +kernel
theorem dX2_sound_9 : decode cX2_sound 9 = .ok (.getfield 63, 3) := by decide +kernel
theorem dX2_sound_12 : decode cX2_sound 12 = .ok (.if_icmp .le 8, 3) := by decide +kernel
theorem dX2_sound_15 : decode cX2_sound 15 = .ok (.aload_n 0, 1) := by decide +kernel
theorem dX2_sound_16 : decode cX2_sound 16 = .ok (.iload_n 1, 1) := by decide +kernel
theorem dX2_sound_17 : decode cX2_sound 17 = .ok (.putfield 63, 3) := by decide +kernel
theorem dX2_sound_20 : decode cX2_sound 20 = .ok (.aload_n 0, 1) := by decide +kernel
theorem dX2_sound_21 : decode cX2_sound 21 = .ok (.getfield 17, 3) := by decide +kernel
theorem dX2_sound_24 : decode cX2_sound 24 = .ok (.ifCond .eq 12, 3) := by decide +kernel
theorem dX2_sound_27 : decode cX2_sound 27 = .ok (.fload_n 3, 1) := by decide +kernel
theorem dX2_sound_28 : decode cX2_sound 28 = .ok (.aload_n 0, 1) := by decide +kernel
theorem dX2_sound_29 : decode cX2_sound 29 = .ok (.getfield 66, 3) := by decide +kernel
theorem dX2_sound_32 : decode cX2_sound 32 = .ok (.fcmp .l, 1) := by decide +kernel
theorem dX2_sound_33 : decode cX2_sound 33 = .ok (.ifCond .le 8, 3) := by decide +kernel
theorem dX2_sound_36 : decode cX2_sound 36 = .ok (.aload_n 0, 1) := by decide +kernel
theorem dX2_sound_37 : decode cX2_sound 37 = .ok (.fload_n 3, 1) := by decide +kernel
theorem dX2_sound_38 : decode cX2_sound 38 = .ok (.putfield 66, 3) := by decide +kernel
theorem dX2_sound_41 : decode cX2_sound 41 = .ok (.aload_n 0, 1) := by decide +kernel
theorem dX2_sound_42 : decode cX2_sound 42 = .ok (.dup, 1) := by decide +kernel
theorem dX2_sound_43 : decode cX2_sound 43 = .ok (.getfield 70, 3) := by decide +kernel
theorem dX2_sound_46 : decode cX2_sound 46 = .ok (.iload_n 1, 1) := by decide +kernel
theorem dX2_sound_47 : decode cX2_sound 47 = .ok (.i2l, 1) := by decide +kernel
theorem dX2_sound_48 : decode cX2_sound 48 = .ok (.iload_n 2, 1) := by decide +kernel
theorem dX2_sound_49 : decode cX2_sound 49 = .ok (.i2l, 1) := by decide +kernel
theorem dX2_sound_50 : decode cX2_sound 50 = .ok (.lmul, 1) := by decide +kernel
theorem dX2_sound_51 : decode cX2_sound 51 = .ok (.ladd, 1) := by decide +kernel
theorem dX2_sound_52 : decode cX2_sound 52 = .ok (.putfield 70, 3) := by decide +kernel
theorem dX2_sound_55 : decode cX2_sound 55 = .ok (.aload_n 0, 1) := by decide +kernel
theorem dX2_sound_56 : decode cX2_sound 56 = .ok (.dup, 1) := by decide +kernel
theorem dX2_sound_57 : decode cX2_sound 57 = .ok (.getfield 17, 3) := by decide +kernel
theorem dX2_sound_60 : decode cX2_sound 60 = .ok (.iconst 1, 1) := by decide +kernel
theorem dX2_sound_61 : decode cX2_sound 61 = .ok (.iadd, 1) := by decide +kernel
theorem dX2_sound_62 : decode cX2_sound 62 = .ok (.putfield 17, 3) := by decide +kernel
theorem dX2_sound_65 : decode cX2_sound 65 = .ok (.return_, 1) := by decide +kernel
theorem dX2_tally_0 : decode cX2_tally 0 = .ok (.iload_n 1, 1) := by decide +kernel
theorem dX2_tally_1 : decode cX2_tally 1 = .ok (.tableswitch 77 0 5 #[39, 45, 51, 57, 62, 68], 39) := by decide +kernel
theorem dX2_tally_40 : decode cX2_tally 40 = .ok (.aload_n 0, 1) := by decide +kernel
theorem dX2_tally_41 : decode cX2_tally 41 = .ok (.getfield 17, 3) := by decide +kernel
theorem dX2_tally_44 : decode cX2_tally 44 = .ok (.i2l, 1) := by decide +kernel
theorem dX2_tally_45 : decode cX2_tally 45 = .ok (.lreturn, 1) := by decide +kernel
theorem dX2_tally_46 : decode cX2_tally 46 = .ok (.aload_n 0, 1) := by decide +kernel
theorem dX2_tally_47 : decode cX2_tally 47 = .ok (.getfield 43, 3) := by decide +kernel
theorem dX2_tally_50 : decode cX2_tally 50 = .ok (.i2l, 1) := by decide +kernel
theorem dX2_tally_51 : decode cX2_tally 51 = .ok (.lreturn, 1) := by decide +kernel
theorem dX2_tally_52 : decode cX2_tally 52 = .ok (.aload_n 0, 1) := by decide +kernel
theorem dX2_tally_53 : decode cX2_tally 53 = .ok (.getfield 54, 3) := by decide +kernel
theorem dX2_tally_56 : decode cX2_tally 56 = .ok (.i2l, 1) := by decide +kernel
theorem dX2_tally_57 : decode cX2_tally 57 = .ok (.lreturn, 1) := by decide +kernel
theorem dX2_tally_58 : decode cX2_tally 58 = .ok (.aload_n 0, 1) := by decide +kernel
theorem dX2_tally_59 : decode cX2_tally 59 = .ok (.getfield 70, 3) := by decide +kernel
theorem dX2_tally_62 : decode cX2_tally 62 = .ok (.lreturn, 1) := by decide +kernel
theorem dX2_tally_63 : decode cX2_tally 63 = .ok (.aload_n 0, 1) := by decide +kernel
theorem dX2_tally_64 : decode cX2_tally 64 = .ok (.getfield 63, 3) := by decide +kernel
theorem dX2_tally_67 : decode cX2_tally 67 = .ok (.i2l, 1) := by decide +kernel
theorem dX2_tally_68 : decode cX2_tally 68 = .ok (.lreturn, 1) := by decide +kernel
theorem dX2_tally_69 : decode cX2_tally 69 = .ok (.aload_n 0, 1) := by decide +kernel
theorem dX2_tally_70 : decode cX2_tally 70 = .ok (.getfield 66, 3) := by decide +kernel
theorem dX2_tally_73 : decode cX2_tally 73 = .ok (.invokestatic 74, 3) := by decide +kernel
theorem dX2_tally_76 : decode cX2_tally 76 = .ok (.i2l, 1) := by decide +kernel
theorem dX2_tally_77 : decode cX2_tally 77 = .ok (.lreturn, 1) := by decide +kernel
theorem dX2_tally_78 : decode cX2_tally 78 = .ok (.aload_n 0, 1) := by decide +kernel
theorem dX2_tally_79 : decode cX2_tally 79 = .ok (.getfield 21, 3) := by decide +kernel
theorem dX2_tally_82 : decode cX2_tally 82 = .ok (.i2l, 1) := by decide +kernel
theorem dX2_tally_83 : decode cX2_tally 83 = .ok (.lreturn, 1) := by decide +kernel
theorem dX2_forget_0 : decode cX2_forget 0 = .ok (.aload_n 0, 1) := by decide +kernel
theorem dX2_forget_1 : decode cX2_forget 1 = .ok (.iconst 0, 1) := by decide +kernel
theorem dX2_forget_2 : decode cX2_forget 2 = .ok (.putfield 17, 3) := by decide +kernel
theorem dX2_forget_5 : decode cX2_forget 5 = .ok (.aload_n 0, 1) := by decide +kernel
theorem dX2_forget_6 : decode cX2_forget 6 = .ok (.iconst 0, 1) := by decide +kernel
theorem dX2_forget_7 : decode cX2_forget 7 = .ok (.putfield 43, 3) := by decide +kernel
theorem dX2_forget_10 : decode cX2_forget 10 = .ok (.aload_n 0, 1) := by decide +kernel
theorem dX2_forget_11 : decode cX2_forget 11 = .ok (.iconst 0, 1) := by decide +kernel
theorem dX2_forget_12 : decode cX2_forget 12 = .ok (.putfield 54, 3) := by decide +kernel
theorem dX2_forget_15 : decode cX2_forget 15 = .ok (.aload_n 0, 1) := by decide +kernel
theorem dX2_forget_16 : decode cX2_forget 16 = .ok (.lconst 0, 1) := by decide +kernel
theorem dX2_forget_17 : decode cX2_forget 17 = .ok (.putfield 70, 3) := by decide +kernel
theorem dX2_forget_20 : decode cX2_forget 20 = .ok (.aload_n 0, 1) := by decide +kernel
theorem dX2_forget_21 : decode cX2_forget 21 = .ok (.iconst 0, 1) := by decide +kernel
theorem dX2_forget_22 : decode cX2_forget 22 = .ok (.putfield 63, 3) := by decide +kernel
theorem dX2_forget_25 : decode cX2_forget 25 = .ok (.aload_n 0, 1) := by decide +kernel
theorem dX2_forget_26 : decode cX2_forget 26 = .ok (.fconst 0, 1) := by decide +kernel
theorem dX2_forget_27 : decode cX2_forget 27 = .ok (.putfield 66, 3) := by decide +kernel
theorem dX2_forget_30 : decode cX2_forget 30 = .ok (.return_, 1) := by decide +kernel
theorem dX3_init_0 : decode cX3_init 0 = .ok (.aload_n 0, 1) := by decide +kernel
theorem dX3_init_1 : decode cX3_init 1 = .ok (.iload_n 1, 1) := by decide +kernel
theorem dX3_init_2 : decode cX3_init 2 = .ok (.invokespecial 1, 3) := by decide +kernel
theorem dX3_init_5 : decode cX3_init 5 = .ok (.aload_n 0, 1) := by decide +kernel
theorem dX3_init_6 : decode cX3_init 6 = .ok (.iload_n 1, 1) := by decide +kernel
theorem dX3_init_7 : decode cX3_init 7 = .ok (.newarray .short, 2) := by decide +kernel
theorem dX3_init_9 : decode cX3_init 9 = .ok (.putfield 7, 3) := by decide +kernel
theorem dX3_init_12 : decode cX3_init 12 = .ok (.return_, 1) := by decide +kernel
theorem dX3_valueAt_0 : decode cX3_valueAt 0 = .ok (.aload_n 0, 1) := by decide +kernel
theorem dX3_valueAt_1 : decode cX3_valueAt 1 = .ok (.getfield 7, 3) := by decide +kernel
theorem dX3_valueAt_4 : decode cX3_valueAt 4 = .ok (.iload_n 1, 1) := by decide +kernel
theorem dX3_valueAt_5 : decode cX3_valueAt 5 = .ok (.saload, 1) := by decide +kernel
theorem dX3_valueAt_6 : decode cX3_valueAt 6 = .ok (.ireturn, 1) := by decide +kernel
theorem dX3_put_0 : decode cX3_put 0 = .ok (.aload_n 0, 1) := by decide +kernel
theorem dX3_put_1 : decode cX3_put 1 = .ok (.getfield 7, 3) := by decide +kernel
theorem dX3_put_4 : decode cX3_put 4 = .ok (.iload_n 1, 1) := by decide +kernel
theorem dX3_put_5 : decode cX3_put 5 = .ok (.iload_n 2, 1) := by decide +kernel
theorem dX3_put_6 : decode cX3_put 6 = .ok (.i2s, 1) := by decide +kernel
theorem dX3_put_7 : decode cX3_put 7 = .ok (.sastore, 1) := by decide +kernel
theorem dX3_put_8 : decode cX3_put 8 = .ok (.iconst 1, 1) := by decide +kernel
theorem dX3_put_9 : decode cX3_put 9 = .ok (.ireturn, 1) := by decide +kernel
theorem dX3_alter_0 : decode cX3_alter 0 = .ok (.aload_n 0, 1) := by decide +kernel
theorem dX3_alter_1 : decode cX3_alter 1 = .ok (.getfield 7, 3) := by decide +kernel
theorem dX3_alter_4 : decode cX3_alter 4 = .ok (.iload_n 1, 1) := by decide +kernel
theorem dX3_alter_5 : decode cX3_alter 5 = .ok (.aload_n 0, 1) := by decide +kernel
theorem dX3_alter_6 : decode cX3_alter 6 = .ok (.getfield 7, 3) := by decide +kernel
theorem dX3_alter_9 : decode cX3_alter 9 = .ok (.iload_n 1, 1) := by decide +kernel
theorem dX3_alter_10 : decode cX3_alter 10 = .ok (.saload, 1) := by decide +kernel
theorem dX3_alter_11 : decode cX3_alter 11 = .ok (.iload_n 2, 1) := by decide +kernel
theorem dX3_alter_12 : decode cX3_alter 12 = .ok (.imul, 1) := by decide +kernel
theorem dX3_alter_13 : decode cX3_alter 13 = .ok (.i2s, 1) := by decide +kernel
theorem dX3_alter_14 : decode cX3_alter 14 = .ok (.sastore, 1) := by decide +kernel
theorem dX3_alter_15 : decode cX3_alter 15 = .ok (.iconst 1, 1) := by decide +kernel
theorem dX3_alter_16 : decode cX3_alter 16 = .ok (.ireturn, 1) := by decide +kernel
theorem dX4_init_0 : decode cX4_init 0 = .ok (.aload_n 0, 1) := by decide +kernel
theorem dX4_init_1 : decode cX4_init 1 = .ok (.iload_n 1, 1) := by decide +kernel
theorem dX4_init_2 : decode cX4_init 2 = .ok (.invokespecial 3, 3) := by decide +kernel
theorem dX4_init_5 : decode cX4_init 5 = .ok (.aload_n 0, 1) := by decide +kernel
theorem dX4_init_6 : decode cX4_init 6 = .ok (.iload_n 1, 1) := by decide +kernel
theorem dX4_init_7 : decode cX4_init 7 = .ok (.newarray .float, 2) := by decide +kernel
theorem dX4_init_9 : decode cX4_init 9 = .ok (.putfield 9, 3) := by decide +kernel
theorem dX4_init_12 : decode cX4_init 12 = .ok (.return_, 1) := by decide +kernel
theorem dX4_levelAt_0 : decode cX4_levelAt 0 = .ok (.aload_n 0, 1) := by decide +kernel
theorem dX4_levelAt_1 : decode cX4_levelAt 1 = .ok (.getfield 9, 3) := by decide +kernel
theorem dX4_levelAt_4 : decode cX4_levelAt 4 = .ok (.iload_n 1, 1) := by decide +kernel
theorem dX4_levelAt_5 : decode cX4_levelAt 5 = .ok (.faload, 1) := by decide +kernel
theorem dX4_levelAt_6 : decode cX4_levelAt 6 = .ok (.freturn, 1) := by decide +kernel
theorem dX4_valueAt_0 : decode cX4_valueAt 0 = .ok (.aload_n 0, 1) := by decide +kernel
theorem dX4_valueAt_1 : decode cX4_valueAt 1 = .ok (.getfield 9, 3) := by decide +kernel
theorem dX4_valueAt_4 : decode cX4_valueAt 4 = .ok (.iload_n 1, 1) := by decide +kernel
theorem dX4_valueAt_5 : decode cX4_valueAt 5 = .ok (.faload, 1) := by decide +kernel
theorem dX4_valueAt_6 : decode cX4_valueAt 6 = .ok (.invokestatic 15, 3) := by decide +kernel
theorem dX4_valueAt_9 : decode cX4_valueAt 9 = .ok (.ireturn, 1) := by decide +kernel
theorem dX4_put_0 : decode cX4_put 0 = .ok (.iload_n 2, 1) := by decide +kernel
theorem dX4_put_1 : decode cX4_put 1 = .ok (.ldc 19, 2) := by decide +kernel
theorem dX4_put_3 : decode cX4_put 3 = .ok (.if_icmp .lt 9, 3) := by decide +kernel
theorem dX4_put_6 : decode cX4_put 6 = .ok (.iload_n 2, 1) := by decide +kernel
theorem dX4_put_7 : decode cX4_put 7 = .ok (.ldc 20, 2) := by decide +kernel
theorem dX4_put_9 : decode cX4_put 9 = .ok (.if_icmp .le 5, 3) := by decide +kernel
theorem dX4_put_12 : decode cX4_put 12 = .ok (.iconst 0, 1) := by decide +kernel
theorem dX4_put_13 : decode cX4_put 13 = .ok (.ireturn, 1) := by decide +kernel
theorem dX4_put_14 : decode cX4_put 14 = .ok (.aload_n 0, 1) := by decide +kernel
theorem dX4_put_15 : decode cX4_put 15 = .ok (.getfield 9, 3) := by decide +kernel
theorem dX4_put_18 : decode cX4_put 18 = .ok (.iload_n 1, 1) := by decide +kernel
theorem dX4_put_19 : decode cX4_put 19 = .ok (.iload_n 2, 1) := by decide +kernel
theorem dX4_put_20 : decode cX4_put 20 = .ok (.i2f, 1) := by decide +kernel
theorem dX4_put_21 : decode cX4_put 21 = .ok (.ldc 21, 2) := by decide +kernel
theorem dX4_put_23 : decode cX4_put 23 = .ok (.fdiv, 1) := by decide +kernel
theorem dX4_put_24 : decode cX4_put 24 = .ok (.fastore, 1) := by decide +kernel
theorem dX4_put_25 : decode cX4_put 25 = .ok (.iconst 1, 1) := by decide +kernel
theorem dX4_put_26 : decode cX4_put 26 = .ok (.ireturn, 1) := by decide +kernel
theorem dX4_alter_0 : decode cX4_alter 0 = .ok (.iload_n 2, 1) := by decide +kernel
theorem dX4_alter_1 : decode cX4_alter 1 = .ok (.sipush (-4000), 3) := by decide +kernel
theorem dX4_alter_4 : decode cX4_alter 4 = .ok (.if_icmp .lt 10, 3) := by decide +kernel
theorem dX4_alter_7 : decode cX4_alter 7 = .ok (.iload_n 2, 1) := by decide +kernel
theorem dX4_alter_8 : decode cX4_alter 8 = .ok (.sipush 4000, 3) := by decide +kernel
theorem dX4_alter_11 : decode cX4_alter 11 = .ok (.if_icmp .le 5, 3) := by decide +kernel
theorem dX4_alter_14 : decode cX4_alter 14 = .ok (.iconst 0, 1) := by decide +kernel
theorem dX4_alter_15 : decode cX4_alter 15 = .ok (.ireturn, 1) := by decide +kernel
theorem dX4_alter_16 : decode cX4_alter 16 = .ok (.aload_n 0, 1) := by decide +kernel
theorem dX4_alter_17 : decode cX4_alter 17 = .ok (.getfield 9, 3) := by decide +kernel
theorem dX4_alter_20 : decode cX4_alter 20 = .ok (.iload_n 1, 1) := by decide +kernel
theorem dX4_alter_21 : decode cX4_alter 21 = .ok (.faload, 1) := by decide +kernel
theorem dX4_alter_22 : decode cX4_alter 22 = .ok (.iload_n 2, 1) := by decide +kernel
theorem dX4_alter_23 : decode cX4_alter 23 = .ok (.i2f, 1) := by decide +kernel
theorem dX4_alter_24 : decode cX4_alter 24 = .ok (.ldc 22, 2) := by decide +kernel
theorem dX4_alter_26 : decode cX4_alter 26 = .ok (.fdiv, 1) := by decide +kernel
theorem dX4_alter_27 : decode cX4_alter 27 = .ok (.fmul, 1) := by decide +kernel
theorem dX4_alter_28 : decode cX4_alter 28 = .ok (.fstore_n 3, 1) := by decide +kernel
theorem dX4_alter_29 : decode cX4_alter 29 = .ok (.fload_n 3, 1) := by decide +kernel
theorem dX4_alter_30 : decode cX4_alter 30 = .ok (.ldc 23, 2) := by decide +kernel
theorem dX4_alter_32 : decode cX4_alter 32 = .ok (.fcmp .g, 1) := by decide +kernel
theorem dX4_alter_33 : decode cX4_alter 33 = .ok (.ifCond .lt 10, 3) := by decide +kernel
theorem dX4_alter_36 : decode cX4_alter 36 = .ok (.fload_n 3, 1) := by decide +kernel
theorem dX4_alter_37 : decode cX4_alter 37 = .ok (.ldc 24, 2) := by decide +kernel
theorem dX4_alter_39 : decode cX4_alter 39 = .ok (.fcmp .l, 1) := by decide +kernel
theorem dX4_alter_40 : decode cX4_alter 40 = .ok (.ifCond .le 5, 3) := by decide +kernel
theorem dX4_alter_43 : decode cX4_alter 43 = .ok (.iconst 0, 1) := by decide +kernel
theorem dX4_alter_44 : decode cX4_alter 44 = .ok (.ireturn, 1) := by decide +kernel
theorem dX4_alter_45 : decode cX4_alter 45 = .ok (.aload_n 0, 1) := by decide +kernel
theorem dX4_alter_46 : decode cX4_alter 46 = .ok (.getfield 9, 3) := by decide +kernel
theorem dX4_alter_49 : decode cX4_alter 49 = .ok (.iload_n 1, 1) := by decide +kernel
theorem dX4_alter_50 : decode cX4_alter 50 = .ok (.fload_n 3, 1) := by decide +kernel
theorem dX4_alter_51 : decode cX4_alter 51 = .ok (.fastore, 1) := by decide +kernel
theorem dX4_alter_52 : decode cX4_alter 52 = .ok (.iconst 1, 1) := by decide +kernel
theorem dX4_alter_53 : decode cX4_alter 53 = .ok (.ireturn, 1) := by decide +kernel
theorem dX4_bitsOf_0 : decode cX4_bitsOf 0 = .ok (.fload_n 0, 1) := by decide +kernel
theorem dX4_bitsOf_1 : decode cX4_bitsOf 1 = .ok (.invokestatic 25, 3) := by decide +kernel
theorem dX4_bitsOf_4 : decode cX4_bitsOf 4 = .ok (.ifCond .eq 8, 3) := by decide +kernel
theorem dX4_bitsOf_7 : decode cX4_bitsOf 7 = .ok (.ldc 29, 2) := by decide +kernel
theorem dX4_bitsOf_9 : decode cX4_bitsOf 9 = .ok (.goto 4, 3) := by decide +kernel
theorem dX4_bitsOf_12 : decode cX4_bitsOf 12 = .ok (.iconst 0, 1) := by decide +kernel
theorem dX4_bitsOf_13 : decode cX4_bitsOf 13 = .ok (.istore_n 1, 1) := by decide +kernel
theorem dX4_bitsOf_14 : decode cX4_bitsOf 14 = .ok (.fload_n 0, 1) := by decide +kernel
theorem dX4_bitsOf_15 : decode cX4_bitsOf 15 = .ok (.fconst 0, 1) := by decide +kernel
theorem dX4_bitsOf_16 : decode cX4_bitsOf 16 = .ok (.fcmp .l, 1) := by decide +kernel
theorem dX4_bitsOf_17 : decode cX4_bitsOf 17 = .ok (.ifCond .ne 5, 3) := by decide +kernel
theorem dX4_bitsOf_20 : decode cX4_bitsOf 20 = .ok (.iload_n 1, 1) := by decide +kernel
theorem dX4_bitsOf_21 : decode cX4_bitsOf 21 = .ok (.ireturn, 1) := by decide +kernel
theorem dX4_bitsOf_22 : decode cX4_bitsOf 22 = .ok (.fload_n 0, 1) := by decide +kernel
theorem dX4_bitsOf_23 : decode cX4_bitsOf 23 = .ok (.fconst 0, 1) := by decide +kernel
theorem dX4_bitsOf_24 : decode cX4_bitsOf 24 = .ok (.fcmp .g, 1) := by decide +kernel
theorem dX4_bitsOf_25 : decode cX4_bitsOf 25 = .ok (.ifCond .ge 8, 3) := by decide +kernel
theorem dX4_bitsOf_28 : decode cX4_bitsOf 28 = .ok (.fload_n 0, 1) := by decide +kernel
theorem dX4_bitsOf_29 : decode cX4_bitsOf 29 = .ok (.fneg, 1) := by decide +kernel
theorem dX4_bitsOf_30 : decode cX4_bitsOf 30 = .ok (.goto 4, 3) := by decide +kernel
theorem dX4_bitsOf_33 : decode cX4_bitsOf 33 = .ok (.fload_n 0, 1) := by decide +kernel
theorem dX4_bitsOf_34 : decode cX4_bitsOf 34 = .ok (.fstore_n 2, 1) := by decide +kernel
theorem dX4_bitsOf_35 : decode cX4_bitsOf 35 = .ok (.sipush 149, 3) := by decide +kernel
theorem dX4_bitsOf_38 : decode cX4_bitsOf 38 = .ok (.istore_n 3, 1) := by decide +kernel
theorem dX4_bitsOf_39 : decode cX4_bitsOf 39 = .ok (.iload_n 3, 1) := by decide +kernel
theorem dX4_bitsOf_40 : decode cX4_bitsOf 40 = .ok (.ifCond .le 20, 3) := by decide +kernel
theorem dX4_bitsOf_43 : decode cX4_bitsOf 43 = .ok (.fload_n 2, 1) := by decide +kernel
theorem dX4_bitsOf_44 : decode cX4_bitsOf 44 = .ok (.ldc 30, 2) := by decide +kernel
theorem dX4_bitsOf_46 : decode cX4_bitsOf 46 = .ok (.fcmp .g, 1) := by decide +kernel
theorem dX4_bitsOf_47 : decode cX4_bitsOf 47 = .ok (.ifCond .ge 13, 3) := by decide +kernel
theorem dX4_bitsOf_50 : decode cX4_bitsOf 50 = .ok (.fload_n 2, 1) := by decide +kernel
theorem dX4_bitsOf_51 : decode cX4_bitsOf 51 = .ok (.fconst 2, 1) := by decide +kernel
theorem dX4_bitsOf_52 : decode cX4_bitsOf 52 = .ok (.fmul, 1) := by decide +kernel
theorem dX4_bitsOf_53 : decode cX4_bitsOf 53 = .ok (.fstore_n 2, 1) := by decide +kernel
theorem dX4_bitsOf_54 : decode cX4_bitsOf 54 = .ok (.iinc 3 (-1), 3) := by decide +kernel
theorem dX4_bitsOf_57 : decode cX4_bitsOf 57 = .ok (.goto (-18), 3) := by decide +kernel
theorem dX4_bitsOf_60 : decode cX4_bitsOf 60 = .ok (.iload_n 1, 1) := by decide +kernel
theorem dX4_bitsOf_61 : decode cX4_bitsOf 61 = .ok (.iload_n 3, 1) := by decide +kernel
theorem dX4_bitsOf_62 : decode cX4_bitsOf 62 = .ok (.bipush 23, 2) := by decide +kernel
theorem dX4_bitsOf_64 : decode cX4_bitsOf 64 = .ok (.ishl, 1) := by decide +kernel
theorem dX4_bitsOf_65 : decode cX4_bitsOf 65 = .ok (.fload_n 2, 1) := by decide +kernel
theorem dX4_bitsOf_66 : decode cX4_bitsOf 66 = .ok (.f2i, 1) := by decide +kernel
theorem dX4_bitsOf_67 : decode cX4_bitsOf 67 = .ok (.iadd, 1) := by decide +kernel
theorem dX4_bitsOf_68 : decode cX4_bitsOf 68 = .ok (.ior, 1) := by decide +kernel
theorem dX4_bitsOf_69 : decode cX4_bitsOf 69 = .ok (.ireturn, 1) := by decide +kernel
theorem dX4_isNegative_0 : decode cX4_isNegative 0 = .ok (.fload_n 0, 1) := by decide +kernel
theorem dX4_isNegative_1 : decode cX4_isNegative 1 = .ok (.fconst 0, 1) := by decide +kernel
theorem dX4_isNegative_2 : decode cX4_isNegative 2 = .ok (.fcmp .l, 1) := by decide +kernel
theorem dX4_isNegative_3 : decode cX4_isNegative 3 = .ok (.ifCond .ne 19, 3) := by decide +kernel
theorem dX4_isNegative_6 : decode cX4_isNegative 6 = .ok (.fconst 1, 1) := by decide +kernel
theorem dX4_isNegative_7 : decode cX4_isNegative 7 = .ok (.fload_n 0, 1) := by decide +kernel
theorem dX4_isNegative_8 : decode cX4_isNegative 8 = .ok (.fdiv, 1) := by decide +kernel
theorem dX4_isNegative_9 : decode cX4_isNegative 9 = .ok (.fconst 0, 1) := by decide +kernel
theorem dX4_isNegative_10 : decode cX4_isNegative 10 = .ok (.fcmp .g, 1) := by decide +kernel
theorem dX4_isNegative_11 : decode cX4_isNegative 11 = .ok (.ifCond .ge 7, 3) := by decide +kernel
theorem dX4_isNegative_14 : decode cX4_isNegative 14 = .ok (.iconst 1, 1) := by decide +kernel
theorem dX4_isNegative_15 : decode cX4_isNegative 15 = .ok (.goto 18, 3) := by decide +kernel
theorem dX4_isNegative_18 : decode cX4_isNegative 18 = .ok (.iconst 0, 1) := by decide +kernel
theorem dX4_isNegative_19 : decode cX4_isNegative 19 = .ok (.goto 14, 3) := by decide +kernel
theorem dX4_isNegative_22 : decode cX4_isNegative 22 = .ok (.fload_n 0, 1) := by decide +kernel
theorem dX4_isNegative_23 : decode cX4_isNegative 23 = .ok (.fconst 0, 1) := by decide +kernel
theorem dX4_isNegative_24 : decode cX4_isNegative 24 = .ok (.fcmp .g, 1) := by decide +kernel
theorem dX4_isNegative_25 : decode cX4_isNegative 25 = .ok (.ifCond .ge 7, 3) := by decide +kernel
theorem dX4_isNegative_28 : decode cX4_isNegative 28 = .ok (.iconst 1, 1) := by decide +kernel
theorem dX4_isNegative_29 : decode cX4_isNegative 29 = .ok (.goto 4, 3) := by decide +kernel
theorem dX4_isNegative_32 : decode cX4_isNegative 32 = .ok (.iconst 0, 1) := by decide +kernel
theorem dX4_isNegative_33 : decode cX4_isNegative 33 = .ok (.ireturn, 1) := by decide +kernel
theorem dX5_init_0 : decode cX5_init 0 = .ok (.aload_n 0, 1) := by decide +kernel
theorem dX5_init_1 : decode cX5_init 1 = .ok (.iload_n 1, 1) := by decide +kernel
theorem dX5_init_2 : decode cX5_init 2 = .ok (.invokespecial 1, 3) := by decide +kernel
theorem dX5_init_5 : decode cX5_init 5 = .ok (.aload_n 0, 1) := by decide +kernel
theorem dX5_init_6 : decode cX5_init 6 = .ok (.iload_n 1, 1) := by decide +kernel
theorem dX5_init_7 : decode cX5_init 7 = .ok (.newarray .boolean, 2) := by decide +kernel
theorem dX5_init_9 : decode cX5_init 9 = .ok (.putfield 7, 3) := by decide +kernel
theorem dX5_init_12 : decode cX5_init 12 = .ok (.return_, 1) := by decide +kernel
theorem dX5_valueAt_0 : decode cX5_valueAt 0 = .ok (.aload_n 0, 1) := by decide +kernel
theorem dX5_valueAt_1 : decode cX5_valueAt 1 = .ok (.getfield 7, 3) := by decide +kernel
theorem dX5_valueAt_4 : decode cX5_valueAt 4 = .ok (.iload_n 1, 1) := by decide +kernel
theorem dX5_valueAt_5 : decode cX5_valueAt 5 = .ok (.baload, 1) := by decide +kernel
theorem dX5_valueAt_6 : decode cX5_valueAt 6 = .ok (.ifCond .eq 7, 3) := by decide +kernel
theorem dX5_valueAt_9 : decode cX5_valueAt 9 = .ok (.iconst 1, 1) := by decide +kernel
theorem dX5_valueAt_10 : decode cX5_valueAt 10 = .ok (.goto 4, 3) := by decide +kernel
theorem dX5_valueAt_13 : decode cX5_valueAt 13 = .ok (.iconst 0, 1) := by decide +kernel
theorem dX5_valueAt_14 : decode cX5_valueAt 14 = .ok (.ireturn, 1) := by decide +kernel
theorem dX5_put_0 : decode cX5_put 0 = .ok (.aload_n 0, 1) := by decide +kernel
theorem dX5_put_1 : decode cX5_put 1 = .ok (.getfield 7, 3) := by decide +kernel
theorem dX5_put_4 : decode cX5_put 4 = .ok (.iload_n 1, 1) := by decide +kernel
theorem dX5_put_5 : decode cX5_put 5 = .ok (.iload_n 2, 1) := by decide +kernel
theorem dX5_put_6 : decode cX5_put 6 = .ok (.ifCond .eq 7, 3) := by decide +kernel
theorem dX5_put_9 : decode cX5_put 9 = .ok (.iconst 1, 1) := by decide +kernel
theorem dX5_put_10 : decode cX5_put 10 = .ok (.goto 4, 3) := by decide +kernel
theorem dX5_put_13 : decode cX5_put 13 = .ok (.iconst 0, 1) := by decide +kernel
theorem dX5_put_14 : decode cX5_put 14 = .ok (.bastore, 1) := by decide +kernel
theorem dX5_put_15 : decode cX5_put 15 = .ok (.iconst 1, 1) := by decide +kernel
theorem dX5_put_16 : decode cX5_put 16 = .ok (.ireturn, 1) := by decide +kernel
theorem dX5_alter_0 : decode cX5_alter 0 = .ok (.iload_n 2, 1) := by decide +kernel
theorem dX5_alter_1 : decode cX5_alter 1 = .ok (.iconst 1, 1) := by decide +kernel
theorem dX5_alter_2 : decode cX5_alter 2 = .ok (.iand, 1) := by decide +kernel
theorem dX5_alter_3 : decode cX5_alter 3 = .ok (.ifCond .eq 23, 3) := by decide +kernel
theorem dX5_alter_6 : decode cX5_alter 6 = .ok (.aload_n 0, 1) := by decide +kernel
theorem dX5_alter_7 : decode cX5_alter 7 = .ok (.getfield 7, 3) := by decide +kernel
theorem dX5_alter_10 : decode cX5_alter 10 = .ok (.iload_n 1, 1) := by decide +kernel
theorem dX5_alter_11 : decode cX5_alter 11 = .ok (.aload_n 0, 1) := by decide +kernel
theorem dX5_alter_12 : decode cX5_alter 12 = .ok (.getfield 7, 3) := by decide +kernel
theorem dX5_alter_15 : decode cX5_alter 15 = .ok (.iload_n 1, 1) := by decide +kernel
theorem dX5_alter_16 : decode cX5_alter 16 = .ok (.baload, 1) := by decide +kernel
theorem dX5_alter_17 : decode cX5_alter 17 = .ok (.ifCond .ne 7, 3) := by decide +kernel
theorem dX5_alter_20 : decode cX5_alter 20 = .ok (.iconst 1, 1) := by decide +kernel
theorem dX5_alter_21 : decode cX5_alter 21 = .ok (.goto 4, 3) := by decide +kernel
theorem dX5_alter_24 : decode cX5_alter 24 = .ok (.iconst 0, 1) := by decide +kernel
theorem dX5_alter_25 : decode cX5_alter 25 = .ok (.bastore, 1) := by decide +kernel
theorem dX5_alter_26 : decode cX5_alter 26 = .ok (.iconst 1, 1) := by decide +kernel
theorem dX5_alter_27 : decode cX5_alter 27 = .ok (.ireturn, 1) := by decide +kernel
theorem dX6_init_0 : decode cX6_init 0 = .ok (.aload_n 0, 1) := by decide +kernel
theorem dX6_init_1 : decode cX6_init 1 = .ok (.iload_n 1, 1) := by decide +kernel
theorem dX6_init_2 : decode cX6_init 2 = .ok (.invokespecial 1, 3) := by decide +kernel
theorem dX6_init_5 : decode cX6_init 5 = .ok (.aload_n 0, 1) := by decide +kernel
theorem dX6_init_6 : decode cX6_init 6 = .ok (.iload_n 1, 1) := by decide +kernel
theorem dX6_init_7 : decode cX6_init 7 = .ok (.newarray .char, 2) := by decide +kernel
theorem dX6_init_9 : decode cX6_init 9 = .ok (.putfield 7, 3) := by decide +kernel
theorem dX6_init_12 : decode cX6_init 12 = .ok (.return_, 1) := by decide +kernel
theorem dX6_valueAt_0 : decode cX6_valueAt 0 = .ok (.aload_n 0, 1) := by decide +kernel
theorem dX6_valueAt_1 : decode cX6_valueAt 1 = .ok (.getfield 7, 3) := by decide +kernel
theorem dX6_valueAt_4 : decode cX6_valueAt 4 = .ok (.iload_n 1, 1) := by decide +kernel
theorem dX6_valueAt_5 : decode cX6_valueAt 5 = .ok (.caload, 1) := by decide +kernel
theorem dX6_valueAt_6 : decode cX6_valueAt 6 = .ok (.ireturn, 1) := by decide +kernel
theorem dX6_put_0 : decode cX6_put 0 = .ok (.aload_n 0, 1) := by decide +kernel
theorem dX6_put_1 : decode cX6_put 1 = .ok (.getfield 7, 3) := by decide +kernel
theorem dX6_put_4 : decode cX6_put 4 = .ok (.iload_n 1, 1) := by decide +kernel
theorem dX6_put_5 : decode cX6_put 5 = .ok (.iload_n 2, 1) := by decide +kernel
theorem dX6_put_6 : decode cX6_put 6 = .ok (.i2c, 1) := by decide +kernel
theorem dX6_put_7 : decode cX6_put 7 = .ok (.castore, 1) := by decide +kernel
theorem dX6_put_8 : decode cX6_put 8 = .ok (.iconst 1, 1) := by decide +kernel
theorem dX6_put_9 : decode cX6_put 9 = .ok (.ireturn, 1) := by decide +kernel
theorem dX6_alter_0 : decode cX6_alter 0 = .ok (.aload_n 0, 1) := by decide +kernel
theorem dX6_alter_1 : decode cX6_alter 1 = .ok (.getfield 7, 3) := by decide +kernel
theorem dX6_alter_4 : decode cX6_alter 4 = .ok (.iload_n 1, 1) := by decide +kernel
theorem dX6_alter_5 : decode cX6_alter 5 = .ok (.aload_n 0, 1) := by decide +kernel
theorem dX6_alter_6 : decode cX6_alter 6 = .ok (.getfield 7, 3) := by decide +kernel
theorem dX6_alter_9 : decode cX6_alter 9 = .ok (.iload_n 1, 1) := by decide +kernel
theorem dX6_alter_10 : decode cX6_alter 10 = .ok (.caload, 1) := by decide +kernel
theorem dX6_alter_11 : decode cX6_alter 11 = .ok (.iload_n 2, 1) := by decide +kernel
theorem dX6_alter_12 : decode cX6_alter 12 = .ok (.iadd, 1) := by decide +kernel
theorem dX6_alter_13 : decode cX6_alter 13 = .ok (.i2c, 1) := by decide +kernel
theorem dX6_alter_14 : decode cX6_alter 14 = .ok (.castore, 1) := by decide +kernel
theorem dX6_alter_15 : decode cX6_alter 15 = .ok (.iconst 1, 1) := by decide +kernel
theorem dX6_alter_16 : decode cX6_alter 16 = .ok (.ireturn, 1) := by decide +kernel
theorem dX7_init_0 : decode cX7_init 0 = .ok (.aload_n 0, 1) := by decide +kernel
theorem dX7_init_1 : decode cX7_init 1 = .ok (.invokespecial 1, 3) := by decide +kernel
theorem dX7_init_4 : decode cX7_init 4 = .ok (.aload_n 0, 1) := by decide +kernel
theorem dX7_init_5 : decode cX7_init 5 = .ok (.iload_n 1, 1) := by decide +kernel
theorem dX7_init_6 : decode cX7_init 6 = .ok (.putfield 7, 3) := by decide +kernel
theorem dX7_init_9 : decode cX7_init 9 = .ok (.return_, 1) := by decide +kernel
theorem dX7_hasPlace_0 : decode cX7_hasPlace 0 = .ok (.iload_n 1, 1) := by decide +kernel
theorem dX7_hasPlace_1 : decode cX7_hasPlace 1 = .ok (.ifCond .lt 15, 3) := by decide +kernel
theorem dX7_hasPlace_4 : decode cX7_hasPlace 4 = .ok (.iload_n 1, 1) := by decide +kernel
theorem dX7_hasPlace_5 : decode cX7_hasPlace 5 = .ok (.aload_n 0, 1) := by decide +kernel
theorem dX7_hasPlace_6 : decode cX7_hasPlace 6 = .ok (.getfield 7, 3) := by decide +kernel
theorem dX7_hasPlace_9 : decode cX7_hasPlace 9 = .ok (.if_icmp .ge 7, 3) := by decide +kernel
theorem dX7_hasPlace_12 : decode cX7_hasPlace 12 = .ok (.iconst 1, 1) := by decide +kernel
theorem dX7_hasPlace_13 : decode cX7_hasPlace 13 = .ok (.goto 4, 3) := by decide +kernel
theorem dX7_hasPlace_16 : decode cX7_hasPlace 16 = .ok (.iconst 0, 1) := by decide +kernel
theorem dX7_hasPlace_17 : decode cX7_hasPlace 17 = .ok (.ireturn, 1) := by decide +kernel
theorem dJxf58ca_isNaN_12338_0 : decode cJxf58ca_isNaN_12338 0 = .ok (.fload_n 0, 1) := by decide +kernel
theorem dJxf58ca_isNaN_12338_1 : decode cJxf58ca_isNaN_12338 1 = .ok (.fload_n 0, 1) := by decide +kernel
theorem dJxf58ca_isNaN_12338_2 : decode cJxf58ca_isNaN_12338 2 = .ok (.fcmp .l, 1) := by decide +kernel
theorem dJxf58ca_isNaN_12338_3 : decode cJxf58ca_isNaN_12338 3 = .ok (.ifCond .eq 7, 3) := by decide +kernel
theorem dJxf58ca_isNaN_12338_6 : decode cJxf58ca_isNaN_12338 6 = .ok (.iconst 1, 1) := by decide +kernel
theorem dJxf58ca_isNaN_12338_7 : decode cJxf58ca_isNaN_12338 7 = .ok (.goto 4, 3) := by decide +kernel
theorem dJxf58ca_isNaN_12338_10 : decode cJxf58ca_isNaN_12338 10 = .ok (.iconst 0, 1) := by decide +kernel
theorem dJxf58ca_isNaN_12338_11 : decode cJxf58ca_isNaN_12338 11 = .ok (.ireturn, 1) := by decide +kernel
theorem dJxf58ca_floatToIntBits_5c35a_0 : decode cJxf58ca_floatToIntBits_5c35a 0 = .ok (.fload_n 0, 1) := by decide +kernel
theorem dJxf58ca_floatToIntBits_5c35a_1 : decode cJxf58ca_floatToIntBits_5c35a 1 = .ok (.invokestatic 59, 3) := by decide +kernel
theorem dJxf58ca_floatToIntBits_5c35a_4 : decode cJxf58ca_floatToIntBits_5c35a 4 = .ok (.ifCond .ne 8, 3) := by decide +kernel
theorem dJxf58ca_floatToIntBits_5c35a_7 : decode cJxf58ca_floatToIntBits_5c35a 7 = .ok (.fload_n 0, 1) := by decide +kernel
theorem dJxf58ca_floatToIntBits_5c35a_8 : decode cJxf58ca_floatToIntBits_5c35a 8 = .ok (.invokestatic 74, 3) := by decide +kernel
theorem dJxf58ca_floatToIntBits_5c35a_11 : decode cJxf58ca_floatToIntBits_5c35a 11 = .ok (.ireturn, 1) := by decide +kernel
theorem dJxf58ca_floatToIntBits_5c35a_12 : decode cJxf58ca_floatToIntBits_5c35a 12 = .ok (.ldc 77, 2) := by decide +kernel
theorem dJxf58ca_floatToIntBits_5c35a_14 : decode cJxf58ca_floatToIntBits_5c35a 14 = .ok (.ireturn, 1) := by decide +kernel
