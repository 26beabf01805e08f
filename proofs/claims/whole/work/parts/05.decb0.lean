theorem dX8_init_0 : decode cX8_init 0 = .ok (.aload_n 0, 1) := by decide +kernel
theorem dX8_init_1 : decode cX8_init 1 = .ok (.invokespecial 1, 3) := by decide +kernel
theorem dX8_init_4 : decode cX8_init 4 = .ok (.aload_n 0, 1) := by decide +kernel
theorem dX8_init_5 : decode cX8_init 5 = .ok (.bipush 8, 2) := by decide +kernel
theorem dX8_init_7 : decode cX8_init 7 = .ok (.anewarray 9, 3) := by decide +kernel
theorem dX8_init_10 : decode cX8_init 10 = .ok (.putfield 11, 3) := by decide +kernel
theorem dX8_init_13 : decode cX8_init 13 = .ok (.iconst 0, 1) := by decide +kernel
theorem dX8_init_14 : decode cX8_init 14 = .ok (.istore_n 1, 1) := by decide +kernel
theorem dX8_init_15 : decode cX8_init 15 = .ok (.iload_n 1, 1) := by decide +kernel
theorem dX8_init_16 : decode cX8_init 16 = .ok (.bipush 8, 2) := by decide +kernel
theorem dX8_init_18 : decode cX8_init 18 = .ok (.if_icmp .ge 22, 3) := by decide +kernel
theorem dX8_init_21 : decode cX8_init 21 = .ok (.aload_n 0, 1) := by decide +kernel
theorem dX8_init_22 : decode cX8_init 22 = .ok (.getfield 11, 3) := by decide +kernel
theorem dX8_init_25 : decode cX8_init 25 = .ok (.iload_n 1, 1) := by decide +kernel
theorem dX8_init_26 : decode cX8_init 26 = .ok (.new 9, 3) := by decide +kernel
theorem dX8_init_29 : decode cX8_init 29 = .ok (.dup, 1) := by decide +kernel
theorem dX8_init_30 : decode cX8_init 30 = .ok (.invokespecial 15, 3) := by decide +kernel
theorem dX8_init_33 : decode cX8_init 33 = .ok (.aastore, 1) := by decide +kernel
theorem dX8_init_34 : decode cX8_init 34 = .ok (.iinc 1 1, 3) := by decide +kernel
theorem dX8_init_37 : decode cX8_init 37 = .ok (.goto (-22), 3) := by decide +kernel
theorem dX8_init_40 : decode cX8_init 40 = .ok (.aload_n 0, 1) := by decide +kernel
theorem dX8_init_41 : decode cX8_init 41 = .ok (.iconst 4, 1) := by decide +kernel
theorem dX8_init_42 : decode cX8_init 42 = .ok (.anewarray 16, 3) := by decide +kernel
theorem dX8_init_45 : decode cX8_init 45 = .ok (.putfield 18, 3) := by decide +kernel
theorem dX8_init_48 : decode cX8_init 48 = .ok (.aload_n 0, 1) := by decide +kernel
theorem dX8_init_49 : decode cX8_init 49 = .ok (.iconst 0, 1) := by decide +kernel
theorem dX8_init_50 : decode cX8_init 50 = .ok (.putfield 22, 3) := by decide +kernel
theorem dX8_init_53 : decode cX8_init 53 = .ok (.return_, 1) := by decide +kernel
theorem dX8_cut_0 : decode cX8_cut 0 = .ok (.iload_n 1, 1) := by decide +kernel
theorem dX8_cut_1 : decode cX8_cut 1 = .ok (.invokestatic 26, 3) := by decide +kernel
theorem dX8_cut_4 : decode cX8_cut 4 = .ok (.ifCond .eq 10, 3) := by decide +kernel
theorem dX8_cut_7 : decode cX8_cut 7 = .ok (.iload_n 2, 1) := by decide +kernel
theorem dX8_cut_8 : decode cX8_cut 8 = .ok (.invokestatic 30, 3) := by decide +kernel
theorem dX8_cut_11 : decode cX8_cut 11 = .ok (.ifCond .ne 9, 3) := by decide +kernel
theorem dX8_cut_14 : decode cX8_cut 14 = .ok (.aload_n 0, 1) := by decide +kernel
theorem dX8_cut_15 : decode cX8_cut 15 = .ok (.iconst (-1), 1) := by decide +kernel
theorem dX8_cut_16 : decode cX8_cut 16 = .ok (.invokevirtual 33, 3) := by decide +kernel
theorem dX8_cut_19 : decode cX8_cut 19 = .ok (.ireturn, 1) := by decide +kernel
theorem dX8_cut_20 : decode cX8_cut 20 = .ok (.iload_n 3, 1) := by decide +kernel
theorem dX8_cut_21 : decode cX8_cut 21 = .ok (.sipush 300, 3) := by decide +kernel
theorem dX8_cut_24 : decode cX8_cut 24 = .ok (.invokestatic 37, 3) := by decide +kernel
theorem dX8_cut_27 : decode cX8_cut 27 = .ok (.ifCond .ne 10, 3) := by decide +kernel
theorem dX8_cut_30 : decode cX8_cut 30 = .ok (.aload_n 0, 1) := by decide +kernel
theorem dX8_cut_31 : decode cX8_cut 31 = .ok (.bipush (-4), 2) := by decide +kernel
theorem dX8_cut_33 : decode cX8_cut 33 = .ok (.invokevirtual 33, 3) := by decide +kernel
theorem dX8_cut_36 : decode cX8_cut 36 = .ok (.ireturn, 1) := by decide +kernel
theorem dX8_cut_37 : decode cX8_cut 37 = .ok (.aload_n 0, 1) := by decide +kernel
theorem dX8_cut_38 : decode cX8_cut 38 = .ok (.getfield 11, 3) := by decide +kernel
theorem dX8_cut_41 : decode cX8_cut 41 = .ok (.iload_n 1, 1) := by decide +kernel
theorem dX8_cut_42 : decode cX8_cut 42 = .ok (.aaload, 1) := by decide +kernel
theorem dX8_cut_43 : decode cX8_cut 43 = .ok (.getfield 41, 3) := by decide +kernel
theorem dX8_cut_46 : decode cX8_cut 46 = .ok (.iload_n 2, 1) := by decide +kernel
theorem dX8_cut_47 : decode cX8_cut 47 = .ok (.iload_n 2, 1) := by decide +kernel
theorem dX8_cut_48 : decode cX8_cut 48 = .ok (.iload_n 3, 1) := by decide +kernel
theorem dX8_cut_49 : decode cX8_cut 49 = .ok (.invokestatic 45, 3) := by decide +kernel
theorem dX8_cut_52 : decode cX8_cut 52 = .ok (.aastore, 1) := by decide +kernel
theorem dX8_cut_53 : decode cX8_cut 53 = .ok (.aload_n 0, 1) := by decide +kernel
theorem dX8_cut_54 : decode cX8_cut 54 = .ok (.iload_n 3, 1) := by decide +kernel
theorem dX8_cut_55 : decode cX8_cut 55 = .ok (.invokevirtual 49, 3) := by decide +kernel
theorem dX8_cut_58 : decode cX8_cut 58 = .ok (.ireturn, 1) := by decide +kernel
theorem dX8_strip_0 : decode cX8_strip 0 = .ok (.aload_n 0, 1) := by decide +kernel
theorem dX8_strip_1 : decode cX8_strip 1 = .ok (.iload_n 1, 1) := by decide +kernel
theorem dX8_strip_2 : decode cX8_strip 2 = .ok (.iload_n 2, 1) := by decide +kernel
theorem dX8_strip_3 : decode cX8_strip 3 = .ok (.invokevirtual 52, 3) := by decide +kernel
theorem dX8_strip_6 : decode cX8_strip 6 = .ok (.astore_n 3, 1) := by decide +kernel
theorem dX8_strip_7 : decode cX8_strip 7 = .ok (.aload_n 3, 1) := by decide +kernel
theorem dX8_strip_8 : decode cX8_strip 8 = .ok (.ifnonnull 8, 3) := by decide +kernel
theorem dX8_strip_11 : decode cX8_strip 11 = .ok (.aload_n 0, 1) := by decide +kernel
theorem dX8_strip_12 : decode cX8_strip 12 = .ok (.getfield 22, 3) := by decide +kernel
theorem dX8_strip_15 : decode cX8_strip 15 = .ok (.ireturn, 1) := by decide +kernel
theorem dX8_strip_16 : decode cX8_strip 16 = .ok (.aload_n 0, 1) := by decide +kernel
theorem dX8_strip_17 : decode cX8_strip 17 = .ok (.getfield 11, 3) := by decide +kernel
theorem dX8_strip_20 : decode cX8_strip 20 = .ok (.iload_n 1, 1) := by decide +kernel
theorem dX8_strip_21 : decode cX8_strip 21 = .ok (.aaload, 1) := by decide +kernel
theorem dX8_strip_22 : decode cX8_strip 22 = .ok (.getfield 41, 3) := by decide +kernel
theorem dX8_strip_25 : decode cX8_strip 25 = .ok (.iload_n 2, 1) := by decide +kernel
theorem dX8_strip_26 : decode cX8_strip 26 = .ok (.aconst_null, 1) := by decide +kernel
theorem dX8_strip_27 : decode cX8_strip 27 = .ok (.aastore, 1) := by decide +kernel
theorem dX8_strip_28 : decode cX8_strip 28 = .ok (.aload_n 3, 1) := by decide +kernel
theorem dX8_strip_29 : decode cX8_strip 29 = .ok (.getfield 55, 3) := by decide +kernel
theorem dX8_strip_32 : decode cX8_strip 32 = .ok (.ireturn, 1) := by decide +kernel
theorem dX8_share_0 : decode cX8_share 0 = .ok (.iload_n 2, 1) := by decide +kernel
theorem dX8_share_1 : decode cX8_share 1 = .ok (.invokestatic 26, 3) := by decide +kernel
theorem dX8_share_4 : decode cX8_share 4 = .ok (.ifCond .ne 9, 3) := by decide +kernel
theorem dX8_share_7 : decode cX8_share 7 = .ok (.aload_n 0, 1) := by decide +kernel
theorem dX8_share_8 : decode cX8_share 8 = .ok (.iconst (-1), 1) := by decide +kernel
theorem dX8_share_9 : decode cX8_share 9 = .ok (.invokevirtual 33, 3) := by decide +kernel
theorem dX8_share_12 : decode cX8_share 12 = .ok (.ireturn, 1) := by decide +kernel
theorem dX8_share_13 : decode cX8_share 13 = .ok (.aload_n 0, 1) := by decide +kernel
theorem dX8_share_14 : decode cX8_share 14 = .ok (.iload_n 1, 1) := by decide +kernel
theorem dX8_share_15 : decode cX8_share 15 = .ok (.iload_n 3, 1) := by decide +kernel
theorem dX8_share_16 : decode cX8_share 16 = .ok (.invokevirtual 52, 3) := by decide +kernel
theorem dX8_share_19 : decode cX8_share 19 = .ok (.astore 4, 2) := by decide +kernel
theorem dX8_share_21 : decode cX8_share 21 = .ok (.aload 4, 2) := by decide +kernel
theorem dX8_share_23 : decode cX8_share 23 = .ok (.ifnonnull 8, 3) := by decide +kernel
theorem dX8_share_26 : decode cX8_share 26 = .ok (.aload_n 0, 1) := by decide +kernel
theorem dX8_share_27 : decode cX8_share 27 = .ok (.getfield 22, 3) := by decide +kernel
theorem dX8_share_30 : decode cX8_share 30 = .ok (.ireturn, 1) := by decide +kernel
theorem dX8_share_31 : decode cX8_share 31 = .ok (.aload_n 0, 1) := by decide +kernel
theorem dX8_share_32 : decode cX8_share 32 = .ok (.getfield 11, 3) := by decide +kernel
theorem dX8_share_35 : decode cX8_share 35 = .ok (.iload_n 2, 1) := by decide +kernel
theorem dX8_share_36 : decode cX8_share 36 = .ok (.aaload, 1) := by decide +kernel
theorem dX8_share_37 : decode cX8_share 37 = .ok (.getfield 41, 3) := by decide +kernel
theorem dX8_share_40 : decode cX8_share 40 = .ok (.iload_n 3, 1) := by decide +kernel
theorem dX8_share_41 : decode cX8_share 41 = .ok (.aload 4, 2) := by decide +kernel
theorem dX8_share_43 : decode cX8_share 43 = .ok (.aastore, 1) := by decide +kernel
theorem dX8_share_44 : decode cX8_share 44 = .ok (.aload 4, 2) := by decide +kernel
theorem dX8_share_46 : decode cX8_share 46 = .ok (.getfield 55, 3) := by decide +kernel
theorem dX8_share_49 : decode cX8_share 49 = .ok (.ireturn, 1) := by decide +kernel
theorem dX8_places_0 : decode cX8_places 0 = .ok (.aload_n 0, 1) := by decide +kernel
theorem dX8_places_1 : decode cX8_places 1 = .ok (.iload_n 1, 1) := by decide +kernel
theorem dX8_places_2 : decode cX8_places 2 = .ok (.iload_n 2, 1) := by decide +kernel
theorem dX8_places_3 : decode cX8_places 3 = .ok (.invokevirtual 52, 3) := by decide +kernel
theorem dX8_places_6 : decode cX8_places 6 = .ok (.astore_n 3, 1) := by decide +kernel
theorem dX8_places_7 : decode cX8_places 7 = .ok (.aload_n 3, 1) := by decide +kernel
theorem dX8_places_8 : decode cX8_places 8 = .ok (.ifnonnull 10, 3) := by decide +kernel
theorem dX8_places_11 : decode cX8_places 11 = .ok (.aload_n 0, 1) := by decide +kernel
theorem dX8_places_12 : decode cX8_places 12 = .ok (.getfield 22, 3) := by decide +kernel
theorem dX8_places_15 : decode cX8_places 15 = .ok (.goto 7, 3) := by decide +kernel
theorem dX8_places_18 : decode cX8_places 18 = .ok (.aload_n 3, 1) := by decide +kernel
theorem dX8_places_19 : decode cX8_places 19 = .ok (.getfield 55, 3) := by decide +kernel
theorem dX8_places_22 : decode cX8_places 22 = .ok (.ireturn, 1) := by decide +kernel
theorem dX8_read_0 : decode cX8_read 0 = .ok (.aload_n 0, 1) := by decide +kernel
theorem dX8_read_1 : decode cX8_read 1 = .ok (.aload_n 0, 1) := by decide +kernel
theorem dX8_read_2 : decode cX8_read 2 = .ok (.iload_n 1, 1) := by decide +kernel
theorem dX8_read_3 : decode cX8_read 3 = .ok (.iload_n 2, 1) := by decide +kernel
theorem dX8_read_4 : decode cX8_read 4 = .ok (.invokevirtual 52, 3) := by decide +kernel
theorem dX8_read_7 : decode cX8_read 7 = .ok (.iload_n 3, 1) := by decide +kernel
theorem dX8_read_8 : decode cX8_read 8 = .ok (.invokevirtual 60, 3) := by decide +kernel
theorem dX8_read_11 : decode cX8_read 11 = .ok (.ireturn, 1) := by decide +kernel
theorem dX8_write_0 : decode cX8_write 0 = .ok (.aload_n 0, 1) := by decide +kernel
theorem dX8_write_1 : decode cX8_write 1 = .ok (.aload_n 0, 1) := by decide +kernel
theorem dX8_write_2 : decode cX8_write 2 = .ok (.iload_n 1, 1) := by decide +kernel
theorem dX8_write_3 : decode cX8_write 3 = .ok (.iload_n 2, 1) := by decide +kernel
theorem dX8_write_4 : decode cX8_write 4 = .ok (.invokevirtual 52, 3) := by decide +kernel
theorem dX8_write_7 : decode cX8_write 7 = .ok (.iload_n 3, 1) := by decide +kernel
theorem dX8_write_8 : decode cX8_write 8 = .ok (.iload 4, 2) := by decide +kernel
theorem dX8_write_10 : decode cX8_write 10 = .ok (.invokevirtual 64, 3) := by decide +kernel
theorem dX8_write_13 : decode cX8_write 13 = .ok (.ireturn, 1) := by decide +kernel
theorem dX8_turn_0 : decode cX8_turn 0 = .ok (.aload_n 0, 1) := by decide +kernel
theorem dX8_turn_1 : decode cX8_turn 1 = .ok (.aload_n 0, 1) := by decide +kernel
theorem dX8_turn_2 : decode cX8_turn 2 = .ok (.iload_n 1, 1) := by decide +kernel
theorem dX8_turn_3 : decode cX8_turn 3 = .ok (.iload_n 2, 1) := by decide +kernel
theorem dX8_turn_4 : decode cX8_turn 4 = .ok (.invokevirtual 52, 3) := by decide +kernel
theorem dX8_turn_7 : decode cX8_turn 7 = .ok (.iload_n 3, 1) := by decide +kernel
theorem dX8_turn_8 : decode cX8_turn 8 = .ok (.iload 4, 2) := by decide +kernel
theorem dX8_turn_10 : decode cX8_turn 10 = .ok (.invokevirtual 68, 3) := by decide +kernel
theorem dX8_turn_13 : decode cX8_turn 13 = .ok (.ireturn, 1) := by decide +kernel
theorem dX8_head_0 : decode cX8_head 0 = .ok (.iload_n 1, 1) := by decide +kernel
theorem dX8_head_1 : decode cX8_head 1 = .ok (.invokestatic 26, 3) := by decide +kernel
theorem dX8_head_4 : decode cX8_head 4 = .ok (.ifCond .ne 9, 3) := by decide +kernel
theorem dX8_head_7 : decode cX8_head 7 = .ok (.aload_n 0, 1) := by decide +kernel
theorem dX8_head_8 : decode cX8_head 8 = .ok (.iconst (-1), 1) := by decide +kernel
theorem dX8_head_9 : decode cX8_head 9 = .ok (.invokevirtual 33, 3) := by decide +kernel
theorem dX8_head_12 : decode cX8_head 12 = .ok (.ireturn, 1) := by decide +kernel
theorem dX8_head_13 : decode cX8_head 13 = .ok (.iload_n 2, 1) := by decide +kernel
theorem dX8_head_14 : decode cX8_head 14 = .ok (.sipush 300, 3) := by decide +kernel
theorem dX8_head_17 : decode cX8_head 17 = .ok (.invokestatic 37, 3) := by decide +kernel
theorem dX8_head_20 : decode cX8_head 20 = .ok (.ifCond .ne 10, 3) := by decide +kernel
theorem dX8_head_23 : decode cX8_head 23 = .ok (.aload_n 0, 1) := by decide +kernel
theorem dX8_head_24 : decode cX8_head 24 = .ok (.bipush (-4), 2) := by decide +kernel
theorem dX8_head_26 : decode cX8_head 26 = .ok (.invokevirtual 33, 3) := by decide +kernel
theorem dX8_head_29 : decode cX8_head 29 = .ok (.ireturn, 1) := by decide +kernel
theorem dX8_head_30 : decode cX8_head 30 = .ok (.aload_n 0, 1) := by decide +kernel
theorem dX8_head_31 : decode cX8_head 31 = .ok (.getfield 11, 3) := by decide +kernel
theorem dX8_head_34 : decode cX8_head 34 = .ok (.iload_n 1, 1) := by decide +kernel
theorem dX8_head_35 : decode cX8_head 35 = .ok (.aaload, 1) := by decide +kernel
theorem dX8_head_36 : decode cX8_head 36 = .ok (.getfield 71, 3) := by decide +kernel
theorem dX8_head_39 : decode cX8_head 39 = .ok (.istore_n 3, 1) := by decide +kernel
theorem dX8_head_40 : decode cX8_head 40 = .ok (.aload_n 0, 1) := by decide +kernel
theorem dX8_head_41 : decode cX8_head 41 = .ok (.getfield 11, 3) := by decide +kernel
theorem dX8_head_44 : decode cX8_head 44 = .ok (.iload_n 1, 1) := by decide +kernel
theorem dX8_head_45 : decode cX8_head 45 = .ok (.aaload, 1) := by decide +kernel
theorem dX8_head_46 : decode cX8_head 46 = .ok (.iload_n 2, 1) := by decide +kernel
theorem dX8_head_47 : decode cX8_head 47 = .ok (.putfield 71, 3) := by decide +kernel
theorem dX8_head_50 : decode cX8_head 50 = .ok (.aload_n 0, 1) := by decide +kernel
theorem dX8_head_51 : decode cX8_head 51 = .ok (.iload_n 3, 1) := by decide +kernel
theorem dX8_head_52 : decode cX8_head 52 = .ok (.invokevirtual 49, 3) := by decide +kernel
theorem dX8_head_55 : decode cX8_head 55 = .ok (.ireturn, 1) := by decide +kernel
theorem dX8_play_0 : decode cX8_play 0 = .ok (.iload_n 1, 1) := by decide +kernel
theorem dX8_play_1 : decode cX8_play 1 = .ok (.invokestatic 26, 3) := by decide +kernel
theorem dX8_play_4 : decode cX8_play 4 = .ok (.ifCond .ne 9, 3) := by decide +kernel
theorem dX8_play_7 : decode cX8_play 7 = .ok (.aload_n 0, 1) := by decide +kernel
theorem dX8_play_8 : decode cX8_play 8 = .ok (.iconst (-1), 1) := by decide +kernel
theorem dX8_play_9 : decode cX8_play 9 = .ok (.invokevirtual 33, 3) := by decide +kernel
theorem dX8_play_12 : decode cX8_play 12 = .ok (.ireturn, 1) := by decide +kernel
theorem dX8_play_13 : decode cX8_play 13 = .ok (.iload_n 2, 1) := by decide +kernel
theorem dX8_play_14 : decode cX8_play 14 = .ok (.bipush 20, 2) := by decide +kernel
theorem dX8_play_16 : decode cX8_play 16 = .ok (.invokestatic 37, 3) := by decide +kernel
theorem dX8_play_19 : decode cX8_play 19 = .ok (.ifCond .ne 10, 3) := by decide +kernel
theorem dX8_play_22 : decode cX8_play 22 = .ok (.aload_n 0, 1) := by decide +kernel
theorem dX8_play_23 : decode cX8_play 23 = .ok (.bipush (-4), 2) := by decide +kernel
theorem dX8_play_25 : decode cX8_play 25 = .ok (.invokevirtual 33, 3) := by decide +kernel
theorem dX8_play_28 : decode cX8_play 28 = .ok (.ireturn, 1) := by decide +kernel
theorem dX8_play_29 : decode cX8_play 29 = .ok (.aload_n 0, 1) := by decide +kernel
theorem dX8_play_30 : decode cX8_play 30 = .ok (.aload_n 0, 1) := by decide +kernel
theorem dX8_play_31 : decode cX8_play 31 = .ok (.getfield 11, 3) := by decide +kernel
theorem dX8_play_34 : decode cX8_play 34 = .ok (.iload_n 1, 1) := by decide +kernel
theorem dX8_play_35 : decode cX8_play 35 = .ok (.aaload, 1) := by decide +kernel
theorem dX8_play_36 : decode cX8_play 36 = .ok (.iload_n 2, 1) := by decide +kernel
theorem dX8_play_37 : decode cX8_play 37 = .ok (.invokevirtual 74, 3) := by decide +kernel
theorem dX8_play_40 : decode cX8_play 40 = .ok (.invokevirtual 49, 3) := by decide +kernel
theorem dX8_play_43 : decode cX8_play 43 = .ok (.ireturn, 1) := by decide +kernel
theorem dX8_heard_0 : decode cX8_heard 0 = .ok (.iload_n 1, 1) := by decide +kernel
theorem dX8_heard_1 : decode cX8_heard 1 = .ok (.invokestatic 26, 3) := by decide +kernel
theorem dX8_heard_4 : decode cX8_heard 4 = .ok (.ifCond .eq 12, 3) := by decide +kernel
theorem dX8_heard_7 : decode cX8_heard 7 = .ok (.iload_n 2, 1) := by decide +kernel
theorem dX8_heard_8 : decode cX8_heard 8 = .ok (.bipush 6, 2) := by decide +kernel
theorem dX8_heard_10 : decode cX8_heard 10 = .ok (.invokestatic 37, 3) := by decide +kernel
theorem dX8_heard_13 : decode cX8_heard 13 = .ok (.ifCond .ne 11, 3) := by decide +kernel
theorem dX8_heard_16 : decode cX8_heard 16 = .ok (.aload_n 0, 1) := by decide +kernel
theorem dX8_heard_17 : decode cX8_heard 17 = .ok (.iconst (-1), 1) := by decide +kernel
theorem dX8_heard_18 : decode cX8_heard 18 = .ok (.invokevirtual 33, 3) := by decide +kernel
theorem dX8_heard_21 : decode cX8_heard 21 = .ok (.pop, 1) := by decide +kernel
theorem dX8_heard_22 : decode cX8_heard 22 = .ok (.lconst 0, 1) := by decide +kernel
theorem dX8_heard_23 : decode cX8_heard 23 = .ok (.lreturn, 1) := by decide +kernel
theorem dX8_heard_24 : decode cX8_heard 24 = .ok (.aload_n 0, 1) := by decide +kernel
theorem dX8_heard_25 : decode cX8_heard 25 = .ok (.iconst 0, 1) := by decide +kernel
theorem dX8_heard_26 : decode cX8_heard 26 = .ok (.putfield 22, 3) := by decide +kernel
theorem dX8_heard_29 : decode cX8_heard 29 = .ok (.aload_n 0, 1) := by decide +kernel
theorem dX8_heard_30 : decode cX8_heard 30 = .ok (.getfield 11, 3) := by decide +kernel
theorem dX8_heard_33 : decode cX8_heard 33 = .ok (.iload_n 1, 1) := by decide +kernel
theorem dX8_heard_34 : decode cX8_heard 34 = .ok (.aaload, 1) := by decide +kernel
theorem dX8_heard_35 : decode cX8_heard 35 = .ok (.iload_n 2, 1) := by decide +kernel
theorem dX8_heard_36 : decode cX8_heard 36 = .ok (.invokevirtual 77, 3) := by decide +kernel
theorem dX8_heard_39 : decode cX8_heard 39 = .ok (.lreturn, 1) := by decide +kernel
theorem dX8_quiet_0 : decode cX8_quiet 0 = .ok (.iload_n 1, 1) := by decide +kernel
theorem dX8_quiet_1 : decode cX8_quiet 1 = .ok (.invokestatic 26, 3) := by decide +kernel
theorem dX8_quiet_4 : decode cX8_quiet 4 = .ok (.ifCond .ne 9, 3) := by decide +kernel
theorem dX8_quiet_7 : decode cX8_quiet 7 = .ok (.aload_n 0, 1) := by decide +kernel
theorem dX8_quiet_8 : decode cX8_quiet 8 = .ok (.iconst (-1), 1) := by decide +kernel
theorem dX8_quiet_9 : decode cX8_quiet 9 = .ok (.invokevirtual 33, 3) := by decide +kernel
theorem dX8_quiet_12 : decode cX8_quiet 12 = .ok (.ireturn, 1) := by decide +kernel
theorem dX8_quiet_13 : decode cX8_quiet 13 = .ok (.aload_n 0, 1) := by decide +kernel
theorem dX8_quiet_14 : decode cX8_quiet 14 = .ok (.getfield 11, 3) := by decide +kernel
theorem dX8_quiet_17 : decode cX8_quiet 17 = .ok (.iload_n 1, 1) := by decide +kernel
theorem dX8_quiet_18 : decode cX8_quiet 18 = .ok (.aaload, 1) := by decide +kernel
theorem dX8_quiet_19 : decode cX8_quiet 19 = .ok (.getfield 81, 3) := by decide +kernel
theorem dX8_quiet_22 : decode cX8_quiet 22 = .ok (.istore_n 2, 1) := by decide +kernel
theorem dX8_quiet_23 : decode cX8_quiet 23 = .ok (.aload_n 0, 1) := by decide +kernel
theorem dX8_quiet_24 : decode cX8_quiet 24 = .ok (.getfield 11, 3) := by decide +kernel
theorem dX8_quiet_27 : decode cX8_quiet 27 = .ok (.iload_n 1, 1) := by decide +kernel
theorem dX8_quiet_28 : decode cX8_quiet 28 = .ok (.aaload, 1) := by decide +kernel
theorem dX8_quiet_29 : decode cX8_quiet 29 = .ok (.invokevirtual 84, 3) := by decide +kernel
theorem dX8_quiet_32 : decode cX8_quiet 32 = .ok (.aload_n 0, 1) := by decide +kernel
theorem dX8_quiet_33 : decode cX8_quiet 33 = .ok (.iload_n 2, 1) := by decide +kernel
theorem dX8_quiet_34 : decode cX8_quiet 34 = .ok (.invokevirtual 49, 3) := by decide +kernel
theorem dX8_quiet_37 : decode cX8_quiet 37 = .ok (.ireturn, 1) := by decide +kernel
theorem dX8_comb_0 : decode cX8_comb 0 = .ok (.iload_n 1, 1) := by decide +kernel
theorem dX8_comb_1 : decode cX8_comb 1 = .ok (.invokestatic 87, 3) := by decide +kernel
theorem dX8_comb_4 : decode cX8_comb 4 = .ok (.ifCond .eq 10, 3) := by decide +kernel
theorem dX8_comb_7 : decode cX8_comb 7 = .ok (.iload_n 2, 1) := by decide +kernel
theorem dX8_comb_8 : decode cX8_comb 8 = .ok (.invokestatic 30, 3) := by decide +kernel
theorem dX8_comb_11 : decode cX8_comb 11 = .ok (.ifCond .ne 9, 3) := by decide +kernel
theorem dX8_comb_14 : decode cX8_comb 14 = .ok (.aload_n 0, 1) := by decide +kernel
theorem dX8_comb_15 : decode cX8_comb 15 = .ok (.iconst (-1), 1) := by decide +kernel
theorem dX8_comb_16 : decode cX8_comb 16 = .ok (.invokevirtual 33, 3) := by decide +kernel
theorem dX8_comb_19 : decode cX8_comb 19 = .ok (.ireturn, 1) := by decide +kernel
theorem dX8_comb_20 : decode cX8_comb 20 = .ok (.iload_n 3, 1) := by decide +kernel
theorem dX8_comb_21 : decode cX8_comb 21 = .ok (.bipush 40, 2) := by decide +kernel
theorem dX8_comb_23 : decode cX8_comb 23 = .ok (.invokestatic 37, 3) := by decide +kernel
theorem dX8_comb_26 : decode cX8_comb 26 = .ok (.ifCond .eq 13, 3) := by decide +kernel
theorem dX8_comb_29 : decode cX8_comb 29 = .ok (.iload 4, 2) := by decide +kernel
theorem dX8_comb_31 : decode cX8_comb 31 = .ok (.bipush 40, 2) := by decide +kernel
theorem dX8_comb_33 : decode cX8_comb 33 = .ok (.invokestatic 37, 3) := by decide +kernel
theorem dX8_comb_36 : decode cX8_comb 36 = .ok (.ifCond .ne 10, 3) := by decide +kernel
theorem dX8_comb_39 : decode cX8_comb 39 = .ok (.aload_n 0, 1) := by decide +kernel
theorem dX8_comb_40 : decode cX8_comb 40 = .ok (.bipush (-4), 2) := by decide +kernel
theorem dX8_comb_42 : decode cX8_comb 42 = .ok (.invokevirtual 33, 3) := by decide +kernel
theorem dX8_comb_45 : decode cX8_comb 45 = .ok (.ireturn, 1) := by decide +kernel
theorem dX8_comb_46 : decode cX8_comb 46 = .ok (.new 16, 3) := by decide +kernel
theorem dX8_comb_49 : decode cX8_comb 49 = .ok (.dup, 1) := by decide +kernel
theorem dX8_comb_50 : decode cX8_comb 50 = .ok (.iload_n 2, 1) := by decide +kernel
theorem dX8_comb_51 : decode cX8_comb 51 = .ok (.iload_n 3, 1) := by decide +kernel
theorem dX8_comb_52 : decode cX8_comb 52 = .ok (.invokespecial 90, 3) := by decide +kernel
theorem dX8_comb_55 : decode cX8_comb 55 = .ok (.astore 5, 2) := by decide +kernel
theorem dX8_comb_57 : decode cX8_comb 57 = .ok (.iconst 0, 1) := by decide +kernel
theorem dX8_comb_58 : decode cX8_comb 58 = .ok (.istore 6, 2) := by decide +kernel
theorem dX8_comb_60 : decode cX8_comb 60 = .ok (.iload 6, 2) := by decide +kernel
theorem dX8_comb_62 : decode cX8_comb 62 = .ok (.iload_n 3, 1) := by decide +kernel
theorem dX8_comb_63 : decode cX8_comb 63 = .ok (.if_icmp .ge 23, 3) := by decide +kernel
theorem dX8_comb_66 : decode cX8_comb 66 = .ok (.aload 5, 2) := by decide +kernel
theorem dX8_comb_68 : decode cX8_comb 68 = .ok (.getfield 93, 3) := by decide +kernel
theorem dX8_comb_71 : decode cX8_comb 71 = .ok (.iload 6, 2) := by decide +kernel
theorem dX8_comb_73 : decode cX8_comb 73 = .ok (.iload_n 2, 1) := by decide +kernel
theorem dX8_comb_74 : decode cX8_comb 74 = .ok (.iload 4, 2) := by decide +kernel
theorem dX8_comb_76 : decode cX8_comb 76 = .ok (.invokestatic 45, 3) := by decide +kernel
theorem dX8_comb_79 : decode cX8_comb 79 = .ok (.aastore, 1) := by decide +kernel
theorem dX8_comb_80 : decode cX8_comb 80 = .ok (.iinc 6 1, 3) := by decide +kernel
theorem dX8_comb_83 : decode cX8_comb 83 = .ok (.goto (-23), 3) := by decide +kernel
theorem dX8_comb_86 : decode cX8_comb 86 = .ok (.aload_n 0, 1) := by decide +kernel
theorem dX8_comb_87 : decode cX8_comb 87 = .ok (.getfield 18, 3) := by decide +kernel
theorem dX8_comb_90 : decode cX8_comb 90 = .ok (.iload_n 1, 1) := by decide +kernel
theorem dX8_comb_91 : decode cX8_comb 91 = .ok (.aload 5, 2) := by decide +kernel
theorem dX8_comb_93 : decode cX8_comb 93 = .ok (.aastore, 1) := by decide +kernel
theorem dX8_comb_94 : decode cX8_comb 94 = .ok (.aload_n 0, 1) := by decide +kernel
theorem dX8_comb_95 : decode cX8_comb 95 = .ok (.iload_n 3, 1) := by decide +kernel
theorem dX8_comb_96 : decode cX8_comb 96 = .ok (.invokevirtual 49, 3) := by decide +kernel
theorem dX8_comb_99 : decode cX8_comb 99 = .ok (.ireturn, 1) := by decide +kernel
theorem dX8_drop_0 : decode cX8_drop 0 = .ok (.aload_n 0, 1) := by decide +kernel
theorem dX8_drop_1 : decode cX8_drop 1 = .ok (.iload_n 1, 1) := by decide +kernel
theorem dX8_drop_2 : decode cX8_drop 2 = .ok (.invokevirtual 96, 3) := by decide +kernel
theorem dX8_drop_5 : decode cX8_drop 5 = .ok (.astore_n 2, 1) := by decide +kernel
theorem dX8_drop_6 : decode cX8_drop 6 = .ok (.aload_n 2, 1) := by decide +kernel
theorem dX8_drop_7 : decode cX8_drop 7 = .ok (.ifnonnull 9, 3) := by decide +kernel
theorem dX8_drop_10 : decode cX8_drop 10 = .ok (.aload_n 0, 1) := by decide +kernel
theorem dX8_drop_11 : decode cX8_drop 11 = .ok (.iconst (-1), 1) := by decide +kernel
theorem dX8_drop_12 : decode cX8_drop 12 = .ok (.invokevirtual 33, 3) := by decide +kernel
theorem dX8_drop_15 : decode cX8_drop 15 = .ok (.ireturn, 1) := by decide +kernel
theorem dX8_drop_16 : decode cX8_drop 16 = .ok (.aload_n 0, 1) := by decide +kernel
theorem dX8_drop_17 : decode cX8_drop 17 = .ok (.getfield 18, 3) := by decide +kernel
theorem dX8_drop_20 : decode cX8_drop 20 = .ok (.iload_n 1, 1) := by decide +kernel
theorem dX8_drop_21 : decode cX8_drop 21 = .ok (.aconst_null, 1) := by decide +kernel
theorem dX8_drop_22 : decode cX8_drop 22 = .ok (.aastore, 1) := by decide +kernel
theorem dX8_drop_23 : decode cX8_drop 23 = .ok (.aload_n 0, 1) := by decide +kernel
theorem dX8_drop_24 : decode cX8_drop 24 = .ok (.aload_n 2, 1) := by decide +kernel
theorem dX8_drop_25 : decode cX8_drop 25 = .ok (.getfield 93, 3) := by decide +kernel
theorem dX8_drop_28 : decode cX8_drop 28 = .ok (.arraylength, 1) := by decide +kernel
theorem dX8_drop_29 : decode cX8_drop 29 = .ok (.invokevirtual 49, 3) := by decide +kernel
theorem dX8_drop_32 : decode cX8_drop 32 = .ok (.ireturn, 1) := by decide +kernel
theorem dX8_about_0 : decode cX8_about 0 = .ok (.aload_n 0, 1) := by decide +kernel
theorem dX8_about_1 : decode cX8_about 1 = .ok (.iload_n 1, 1) := by decide +kernel
theorem dX8_about_2 : decode cX8_about 2 = .ok (.invokevirtual 96, 3) := by decide +kernel
theorem dX8_about_5 : decode cX8_about 5 = .ok (.astore_n 3, 1) := by decide +kernel
theorem dX8_about_6 : decode cX8_about 6 = .ok (.aload_n 3, 1) := by decide +kernel
theorem dX8_about_7 : decode cX8_about 7 = .ok (.ifnull 11, 3) := by decide +kernel
theorem dX8_about_10 : decode cX8_about 10 = .ok (.iload_n 2, 1) := by decide +kernel
theorem dX8_about_11 : decode cX8_about 11 = .ok (.iconst 3, 1) := by decide +kernel
theorem dX8_about_12 : decode cX8_about 12 = .ok (.invokestatic 37, 3) := by decide +kernel
theorem dX8_about_15 : decode cX8_about 15 = .ok (.ifCond .ne 9, 3) := by decide +kernel
theorem dX8_about_18 : decode cX8_about 18 = .ok (.aload_n 0, 1) := by decide +kernel
theorem dX8_about_19 : decode cX8_about 19 = .ok (.iconst (-1), 1) := by decide +kernel
theorem dX8_about_20 : decode cX8_about 20 = .ok (.invokevirtual 33, 3) := by decide +kernel
theorem dX8_about_23 : decode cX8_about 23 = .ok (.ireturn, 1) := by decide +kernel
theorem dX8_about_24 : decode cX8_about 24 = .ok (.aload_n 0, 1) := by decide +kernel
theorem dX8_about_25 : decode cX8_about 25 = .ok (.aload_n 3, 1) := by decide +kernel
theorem dX8_about_26 : decode cX8_about 26 = .ok (.iload_n 2, 1) := by decide +kernel
theorem dX8_about_27 : decode cX8_about 27 = .ok (.invokevirtual 100, 3) := by decide +kernel
theorem dX8_about_30 : decode cX8_about 30 = .ok (.invokevirtual 49, 3) := by decide +kernel
theorem dX8_about_33 : decode cX8_about 33 = .ok (.ireturn, 1) := by decide +kernel
theorem dX8_loosen_0 : decode cX8_loosen 0 = .ok (.aload_n 0, 1) := by decide +kernel
theorem dX8_loosen_1 : decode cX8_loosen 1 = .ok (.iload_n 1, 1) := by decide +kernel
theorem dX8_loosen_2 : decode cX8_loosen 2 = .ok (.iload_n 2, 1) := by decide +kernel
theorem dX8_loosen_3 : decode cX8_loosen 3 = .ok (.invokevirtual 103, 3) := by decide +kernel
theorem dX8_loosen_6 : decode cX8_loosen 6 = .ok (.astore_n 3, 1) := by decide +kernel
theorem dX8_loosen_7 : decode cX8_loosen 7 = .ok (.aload_n 3, 1) := by decide +kernel
theorem dX8_loosen_8 : decode cX8_loosen 8 = .ok (.ifnonnull 9, 3) := by decide +kernel
theorem dX8_loosen_11 : decode cX8_loosen 11 = .ok (.aload_n 0, 1) := by decide +kernel
theorem dX8_loosen_12 : decode cX8_loosen 12 = .ok (.iconst (-1), 1) := by decide +kernel
theorem dX8_loosen_13 : decode cX8_loosen 13 = .ok (.invokevirtual 33, 3) := by decide +kernel
theorem dX8_loosen_16 : decode cX8_loosen 16 = .ok (.ireturn, 1) := by decide +kernel
theorem dX8_loosen_17 : decode cX8_loosen 17 = .ok (.aload_n 3, 1) := by decide +kernel
theorem dX8_loosen_18 : decode cX8_loosen 18 = .ok (.getfield 93, 3) := by decide +kernel
theorem dX8_loosen_21 : decode cX8_loosen 21 = .ok (.iload_n 2, 1) := by decide +kernel
theorem dX8_loosen_22 : decode cX8_loosen 22 = .ok (.aaload, 1) := by decide +kernel
theorem dX8_loosen_23 : decode cX8_loosen 23 = .ok (.astore 4, 2) := by decide +kernel
theorem dX8_loosen_25 : decode cX8_loosen 25 = .ok (.aload 4, 2) := by decide +kernel
theorem dX8_loosen_27 : decode cX8_loosen 27 = .ok (.ifnonnull 10, 3) := by decide +kernel
theorem dX8_loosen_30 : decode cX8_loosen 30 = .ok (.aload_n 0, 1) := by decide +kernel
theorem dX8_loosen_31 : decode cX8_loosen 31 = .ok (.bipush (-2), 2) := by decide +kernel
theorem dX8_loosen_33 : decode cX8_loosen 33 = .ok (.invokevirtual 33, 3) := by decide +kernel
theorem dX8_loosen_36 : decode cX8_loosen 36 = .ok (.ireturn, 1) := by decide +kernel
theorem dX8_loosen_37 : decode cX8_loosen 37 = .ok (.aload_n 3, 1) := by decide +kernel
theorem dX8_loosen_38 : decode cX8_loosen 38 = .ok (.getfield 93, 3) := by decide +kernel
theorem dX8_loosen_41 : decode cX8_loosen 41 = .ok (.iload_n 2, 1) := by decide +kernel
theorem dX8_loosen_42 : decode cX8_loosen 42 = .ok (.aconst_null, 1) := by decide +kernel
theorem dX8_loosen_43 : decode cX8_loosen 43 = .ok (.aastore, 1) := by decide +kernel
theorem dX8_loosen_44 : decode cX8_loosen 44 = .ok (.aload_n 0, 1) := by decide +kernel
theorem dX8_loosen_45 : decode cX8_loosen 45 = .ok (.aload 4, 2) := by decide +kernel
theorem dX8_loosen_47 : decode cX8_loosen 47 = .ok (.getfield 55, 3) := by decide +kernel
theorem dX8_loosen_50 : decode cX8_loosen 50 = .ok (.invokevirtual 49, 3) := by decide +kernel
theorem dX8_loosen_53 : decode cX8_loosen 53 = .ok (.ireturn, 1) := by decide +kernel
theorem dX8_hang_0 : decode cX8_hang 0 = .ok (.aload_n 0, 1) := by decide +kernel
theorem dX8_hang_1 : decode cX8_hang 1 = .ok (.iload_n 1, 1) := by decide +kernel
theorem dX8_hang_2 : decode cX8_hang 2 = .ok (.iload_n 2, 1) := by decide +kernel
theorem dX8_hang_3 : decode cX8_hang 3 = .ok (.invokevirtual 103, 3) := by decide +kernel
theorem dX8_hang_6 : decode cX8_hang 6 = .ok (.astore 4, 2) := by decide +kernel
theorem dX8_hang_8 : decode cX8_hang 8 = .ok (.aload 4, 2) := by decide +kernel
theorem dX8_hang_10 : decode cX8_hang 10 = .ok (.ifnonnull 9, 3) := by decide +kernel
theorem dX8_hang_13 : decode cX8_hang 13 = .ok (.aload_n 0, 1) := by decide +kernel
theorem dX8_hang_14 : decode cX8_hang 14 = .ok (.iconst (-1), 1) := by decide +kernel
theorem dX8_hang_15 : decode cX8_hang 15 = .ok (.invokevirtual 33, 3) := by decide +kernel
theorem dX8_hang_18 : decode cX8_hang 18 = .ok (.ireturn, 1) := by decide +kernel
theorem dX8_hang_19 : decode cX8_hang 19 = .ok (.aload_n 0, 1) := by decide +kernel
theorem dX8_hang_20 : decode cX8_hang 20 = .ok (.iload_n 3, 1) := by decide +kernel
theorem dX8_hang_21 : decode cX8_hang 21 = .ok (.aload 4, 2) := by decide +kernel
theorem dX8_hang_23 : decode cX8_hang 23 = .ok (.getfield 107, 3) := by decide +kernel
theorem dX8_hang_26 : decode cX8_hang 26 = .ok (.invokevirtual 52, 3) := by decide +kernel
theorem dX8_hang_29 : decode cX8_hang 29 = .ok (.astore 5, 2) := by decide +kernel
theorem dX8_hang_31 : decode cX8_hang 31 = .ok (.aload 5, 2) := by decide +kernel
theorem dX8_hang_33 : decode cX8_hang 33 = .ok (.ifnonnull 8, 3) := by decide +kernel
theorem dX8_hang_36 : decode cX8_hang 36 = .ok (.aload_n 0, 1) := by decide +kernel
theorem dX8_hang_37 : decode cX8_hang 37 = .ok (.getfield 22, 3) := by decide +kernel
theorem dX8_hang_40 : decode cX8_hang 40 = .ok (.ireturn, 1) := by decide +kernel
theorem dX8_hang_41 : decode cX8_hang 41 = .ok (.aload 4, 2) := by decide +kernel
theorem dX8_hang_43 : decode cX8_hang 43 = .ok (.getfield 93, 3) := by decide +kernel
theorem dX8_hang_46 : decode cX8_hang 46 = .ok (.iload_n 2, 1) := by decide +kernel
theorem dX8_hang_47 : decode cX8_hang 47 = .ok (.aload 5, 2) := by decide +kernel
theorem dX8_hang_49 : decode cX8_hang 49 = .ok (.aastore, 1) := by decide +kernel
theorem dX8_hang_50 : decode cX8_hang 50 = .ok (.aload 5, 2) := by decide +kernel
theorem dX8_hang_52 : decode cX8_hang 52 = .ok (.getfield 55, 3) := by decide +kernel
theorem dX8_hang_55 : decode cX8_hang 55 = .ok (.ireturn, 1) := by decide +kernel
theorem dX8_fit_0 : decode cX8_fit 0 = .ok (.aload_n 0, 1) := by decide +kernel
theorem dX8_fit_1 : decode cX8_fit 1 = .ok (.iload_n 1, 1) := by decide +kernel
theorem dX8_fit_2 : decode cX8_fit 2 = .ok (.iload_n 2, 1) := by decide +kernel
theorem dX8_fit_3 : decode cX8_fit 3 = .ok (.invokevirtual 103, 3) := by decide +kernel
theorem dX8_fit_6 : decode cX8_fit 6 = .ok (.astore 4, 2) := by decide +kernel
theorem dX8_fit_8 : decode cX8_fit 8 = .ok (.aload 4, 2) := by decide +kernel
theorem dX8_fit_10 : decode cX8_fit 10 = .ok (.ifnull 10, 3) := by decide +kernel
theorem dX8_fit_13 : decode cX8_fit 13 = .ok (.iload_n 3, 1) := by decide +kernel
theorem dX8_fit_14 : decode cX8_fit 14 = .ok (.invokestatic 26, 3) := by decide +kernel
theorem dX8_fit_17 : decode cX8_fit 17 = .ok (.ifCond .ne 9, 3) := by decide +kernel
theorem dX8_fit_20 : decode cX8_fit 20 = .ok (.aload_n 0, 1) := by decide +kernel
theorem dX8_fit_21 : decode cX8_fit 21 = .ok (.iconst (-1), 1) := by decide +kernel
theorem dX8_fit_22 : decode cX8_fit 22 = .ok (.invokevirtual 33, 3) := by decide +kernel
theorem dX8_fit_25 : decode cX8_fit 25 = .ok (.ireturn, 1) := by decide +kernel
theorem dX8_fit_26 : decode cX8_fit 26 = .ok (.aload 4, 2) := by decide +kernel
theorem dX8_fit_28 : decode cX8_fit 28 = .ok (.getfield 93, 3) := by decide +kernel
theorem dX8_fit_31 : decode cX8_fit 31 = .ok (.iload_n 2, 1) := by decide +kernel
theorem dX8_fit_32 : decode cX8_fit 32 = .ok (.aaload, 1) := by decide +kernel
theorem dX8_fit_33 : decode cX8_fit 33 = .ok (.astore 5, 2) := by decide +kernel
theorem dX8_fit_35 : decode cX8_fit 35 = .ok (.aload 5, 2) := by decide +kernel
theorem dX8_fit_37 : decode cX8_fit 37 = .ok (.ifnonnull 10, 3) := by decide +kernel
theorem dX8_fit_40 : decode cX8_fit 40 = .ok (.aload_n 0, 1) := by decide +kernel
theorem dX8_fit_41 : decode cX8_fit 41 = .ok (.bipush (-2), 2) := by decide +kernel
theorem dX8_fit_43 : decode cX8_fit 43 = .ok (.invokevirtual 33, 3) := by decide +kernel
theorem dX8_fit_46 : decode cX8_fit 46 = .ok (.ireturn, 1) := by decide +kernel
theorem dX8_fit_47 : decode cX8_fit 47 = .ok (.aload_n 0, 1) := by decide +kernel
theorem dX8_fit_48 : decode cX8_fit 48 = .ok (.getfield 11, 3) := by decide +kernel
theorem dX8_fit_51 : decode cX8_fit 51 = .ok (.iload_n 3, 1) := by decide +kernel
theorem dX8_fit_52 : decode cX8_fit 52 = .ok (.aaload, 1) := by decide +kernel
theorem dX8_fit_53 : decode cX8_fit 53 = .ok (.getfield 41, 3) := by decide +kernel
theorem dX8_fit_56 : decode cX8_fit 56 = .ok (.aload 4, 2) := by decide +kernel
theorem dX8_fit_58 : decode cX8_fit 58 = .ok (.getfield 107, 3) := by decide +kernel
theorem dX8_fit_61 : decode cX8_fit 61 = .ok (.aload 5, 2) := by decide +kernel
theorem dX8_fit_63 : decode cX8_fit 63 = .ok (.aastore, 1) := by decide +kernel
theorem dX8_fit_64 : decode cX8_fit 64 = .ok (.aload_n 0, 1) := by decide +kernel
theorem dX8_fit_65 : decode cX8_fit 65 = .ok (.aload 5, 2) := by decide +kernel
theorem dX8_fit_67 : decode cX8_fit 67 = .ok (.getfield 55, 3) := by decide +kernel
theorem dX8_fit_70 : decode cX8_fit 70 = .ok (.invokevirtual 49, 3) := by decide +kernel
theorem dX8_fit_73 : decode cX8_fit 73 = .ok (.ireturn, 1) := by decide +kernel
theorem dX8_cell_0 : decode cX8_cell 0 = .ok (.aload_n 0, 1) := by decide +kernel
theorem dX8_cell_1 : decode cX8_cell 1 = .ok (.aload_n 0, 1) := by decide +kernel
theorem dX8_cell_2 : decode cX8_cell 2 = .ok (.iload_n 1, 1) := by decide +kernel
theorem dX8_cell_3 : decode cX8_cell 3 = .ok (.iload_n 2, 1) := by decide +kernel
theorem dX8_cell_4 : decode cX8_cell 4 = .ok (.invokevirtual 110, 3) := by decide +kernel
theorem dX8_cell_7 : decode cX8_cell 7 = .ok (.iload_n 3, 1) := by decide +kernel
theorem dX8_cell_8 : decode cX8_cell 8 = .ok (.invokevirtual 60, 3) := by decide +kernel
theorem dX8_cell_11 : decode cX8_cell 11 = .ok (.ireturn, 1) := by decide +kernel
theorem dX8_set_0 : decode cX8_set 0 = .ok (.aload_n 0, 1) := by decide +kernel
theorem dX8_set_1 : decode cX8_set 1 = .ok (.aload_n 0, 1) := by decide +kernel
theorem dX8_set_2 : decode cX8_set 2 = .ok (.iload_n 1, 1) := by decide +kernel
theorem dX8_set_3 : decode cX8_set 3 = .ok (.iload_n 2, 1) := by decide +kernel
theorem dX8_set_4 : decode cX8_set 4 = .ok (.invokevirtual 110, 3) := by decide +kernel
theorem dX8_set_7 : decode cX8_set 7 = .ok (.iload_n 3, 1) := by decide +kernel
theorem dX8_set_8 : decode cX8_set 8 = .ok (.iload 4, 2) := by decide +kernel
theorem dX8_set_10 : decode cX8_set 10 = .ok (.invokevirtual 64, 3) := by decide +kernel
theorem dX8_set_13 : decode cX8_set 13 = .ok (.ireturn, 1) := by decide +kernel
theorem dX8_twist_0 : decode cX8_twist 0 = .ok (.aload_n 0, 1) := by decide +kernel
theorem dX8_twist_1 : decode cX8_twist 1 = .ok (.aload_n 0, 1) := by decide +kernel
theorem dX8_twist_2 : decode cX8_twist 2 = .ok (.iload_n 1, 1) := by decide +kernel
theorem dX8_twist_3 : decode cX8_twist 3 = .ok (.iload_n 2, 1) := by decide +kernel
theorem dX8_twist_4 : decode cX8_twist 4 = .ok (.invokevirtual 110, 3) := by decide +kernel
theorem dX8_twist_7 : decode cX8_twist 7 = .ok (.iload_n 3, 1) := by decide +kernel
theorem dX8_twist_8 : decode cX8_twist 8 = .ok (.iload 4, 2) := by decide +kernel
theorem dX8_twist_10 : decode cX8_twist 10 = .ok (.invokevirtual 68, 3) := by decide +kernel
theorem dX8_twist_13 : decode cX8_twist 13 = .ok (.ireturn, 1) := by decide +kernel
theorem dX8_state_0 : decode cX8_state 0 = .ok (.aload_n 0, 1) := by decide +kernel
theorem dX8_state_1 : decode cX8_state 1 = .ok (.getfield 22, 3) := by decide +kernel
theorem dX8_state_4 : decode cX8_state 4 = .ok (.ireturn, 1) := by decide +kernel
theorem dX8_refuse_0 : decode cX8_refuse 0 = .ok (.aload_n 0, 1) := by decide +kernel
theorem dX8_refuse_1 : decode cX8_refuse 1 = .ok (.iload_n 1, 1) := by decide +kernel
theorem dX8_refuse_2 : decode cX8_refuse 2 = .ok (.putfield 22, 3) := by decide +kernel
theorem dX8_refuse_5 : decode cX8_refuse 5 = .ok (.iload_n 1, 1) := by decide +kernel
theorem dX8_refuse_6 : decode cX8_refuse 6 = .ok (.ireturn, 1) := by decide +kernel
theorem dX8_grant_0 : decode cX8_grant 0 = .ok (.aload_n 0, 1) := by decide +kernel
theorem dX8_grant_1 : decode cX8_grant 1 = .ok (.iconst 0, 1) := by decide +kernel
theorem dX8_grant_2 : decode cX8_grant 2 = .ok (.putfield 22, 3) := by decide +kernel
theorem dX8_grant_5 : decode cX8_grant 5 = .ok (.iload_n 1, 1) := by decide +kernel
theorem dX8_grant_6 : decode cX8_grant 6 = .ok (.ireturn, 1) := by decide +kernel
theorem dX8_isUpTo_0 : decode cX8_isUpTo 0 = .ok (.iload_n 0, 1) := by decide +kernel
theorem dX8_isUpTo_1 : decode cX8_isUpTo 1 = .ok (.ifCond .lt 12, 3) := by decide +kernel
theorem dX8_isUpTo_4 : decode cX8_isUpTo 4 = .ok (.iload_n 0, 1) := by decide +kernel
theorem dX8_isUpTo_5 : decode cX8_isUpTo 5 = .ok (.iload_n 1, 1) := by decide +kernel
theorem dX8_isUpTo_6 : decode cX8_isUpTo 6 = .ok (.if_icmp .gt 7, 3) := by decide +kernel
theorem dX8_isUpTo_9 : decode cX8_isUpTo 9 = .ok (.iconst 1, 1) := by decide +kernel
theorem dX8_isUpTo_10 : decode cX8_isUpTo 10 = .ok (.goto 4, 3) := by decide +kernel
theorem dX8_isUpTo_13 : decode cX8_isUpTo 13 = .ok (.iconst 0, 1) := by decide +kernel
theorem dX8_isUpTo_14 : decode cX8_isUpTo 14 = .ok (.ireturn, 1) := by decide +kernel
theorem dX8_isDrum_0 : decode cX8_isDrum 0 = .ok (.iload_n 0, 1) := by decide +kernel
theorem dX8_isDrum_1 : decode cX8_isDrum 1 = .ok (.ifCond .lt 13, 3) := by decide +kernel
theorem dX8_isDrum_4 : decode cX8_isDrum 4 = .ok (.iload_n 0, 1) := by decide +kernel
theorem dX8_isDrum_5 : decode cX8_isDrum 5 = .ok (.bipush 8, 2) := by decide +kernel
theorem dX8_isDrum_7 : decode cX8_isDrum 7 = .ok (.if_icmp .ge 7, 3) := by decide +kernel
theorem dX8_isDrum_10 : decode cX8_isDrum 10 = .ok (.iconst 1, 1) := by decide +kernel
theorem dX8_isDrum_11 : decode cX8_isDrum 11 = .ok (.goto 4, 3) := by decide +kernel
theorem dX8_isDrum_14 : decode cX8_isDrum 14 = .ok (.iconst 0, 1) := by decide +kernel
theorem dX8_isDrum_15 : decode cX8_isDrum 15 = .ok (.ireturn, 1) := by decide +kernel
theorem dX8_isKind_0 : decode cX8_isKind 0 = .ok (.iload_n 0, 1) := by decide +kernel
theorem dX8_isKind_1 : decode cX8_isKind 1 = .ok (.ifCond .lt 12, 3) := by decide +kernel
theorem dX8_isKind_4 : decode cX8_isKind 4 = .ok (.iload_n 0, 1) := by decide +kernel
theorem dX8_isKind_5 : decode cX8_isKind 5 = .ok (.iconst 5, 1) := by decide +kernel
theorem dX8_isKind_6 : decode cX8_isKind 6 = .ok (.if_icmp .ge 7, 3) := by decide +kernel
theorem dX8_isKind_9 : decode cX8_isKind 9 = .ok (.iconst 1, 1) := by decide +kernel
theorem dX8_isKind_10 : decode cX8_isKind 10 = .ok (.goto 4, 3) := by decide +kernel
theorem dX8_isKind_13 : decode cX8_isKind 13 = .ok (.iconst 0, 1) := by decide +kernel
theorem dX8_isKind_14 : decode cX8_isKind 14 = .ok (.ireturn, 1) := by decide +kernel
theorem dX8_isComb_0 : decode cX8_isComb 0 = .ok (.iload_n 0, 1) := by decide +kernel
theorem dX8_isComb_1 : decode cX8_isComb 1 = .ok (.ifCond .lt 12, 3) := by decide +kernel
theorem dX8_isComb_4 : decode cX8_isComb 4 = .ok (.iload_n 0, 1) := by decide +kernel
theorem dX8_isComb_5 : decode cX8_isComb 5 = .ok (.iconst 4, 1) := by decide +kernel
theorem dX8_isComb_6 : decode cX8_isComb 6 = .ok (.if_icmp .ge 7, 3) := by decide +kernel
theorem dX8_isComb_9 : decode cX8_isComb 9 = .ok (.iconst 1, 1) := by decide +kernel
theorem dX8_isComb_10 : decode cX8_isComb 10 = .ok (.goto 4, 3) := by decide +kernel
theorem dX8_isComb_13 : decode cX8_isComb 13 = .ok (.iconst 0, 1) := by decide +kernel
theorem dX8_isComb_14 : decode cX8_isComb 14 = .ok (.ireturn, 1) := by decide +kernel
theorem dX8_combOf_0 : decode cX8_combOf 0 = .ok (.iload_n 1, 1) := by decide +kernel
theorem dX8_combOf_1 : decode cX8_combOf 1 = .ok (.invokestatic 87, 3) := by decide +kernel
theorem dX8_combOf_4 : decode cX8_combOf 4 = .ok (.ifCond .eq 12, 3) := by decide +kernel
theorem dX8_combOf_7 : decode cX8_combOf 7 = .ok (.aload_n 0, 1) := by decide +kernel
theorem dX8_combOf_8 : decode cX8_combOf 8 = .ok (.getfield 18, 3) := by decide +kernel
theorem dX8_combOf_11 : decode cX8_combOf 11 = .ok (.iload_n 1, 1) := by decide +kernel
theorem dX8_combOf_12 : decode cX8_combOf 12 = .ok (.aaload, 1) := by decide +kernel
theorem dX8_combOf_13 : decode cX8_combOf 13 = .ok (.goto 4, 3) := by decide +kernel
theorem dX8_combOf_16 : decode cX8_combOf 16 = .ok (.aconst_null, 1) := by decide +kernel
theorem dX8_combOf_17 : decode cX8_combOf 17 = .ok (.areturn, 1) := by decide +kernel
theorem dX8_combWithTooth_0 : decode cX8_combWithTooth 0 = .ok (.aload_n 0, 1) := by decide +kernel
theorem dX8_combWithTooth_1 : decode cX8_combWithTooth 1 = .ok (.iload_n 1, 1) := by decide +kernel
theorem dX8_combWithTooth_2 : decode cX8_combWithTooth 2 = .ok (.invokevirtual 96, 3) := by decide +kernel
theorem dX8_combWithTooth_5 : decode cX8_combWithTooth 5 = .ok (.astore_n 3, 1) := by decide +kernel
theorem dX8_combWithTooth_6 : decode cX8_combWithTooth 6 = .ok (.aload_n 3, 1) := by decide +kernel
theorem dX8_combWithTooth_7 : decode cX8_combWithTooth 7 = .ok (.ifnull 16, 3) := by decide +kernel
theorem dX8_combWithTooth_10 : decode cX8_combWithTooth 10 = .ok (.iload_n 2, 1) := by decide +kernel
theorem dX8_combWithTooth_11 : decode cX8_combWithTooth 11 = .ok (.ifCond .lt 12, 3) := by decide +kernel
theorem dX8_combWithTooth_14 : decode cX8_combWithTooth 14 = .ok (.iload_n 2, 1) := by decide +kernel
theorem dX8_combWithTooth_15 : decode cX8_combWithTooth 15 = .ok (.aload_n 3, 1) := by decide +kernel
theorem dX8_combWithTooth_16 : decode cX8_combWithTooth 16 = .ok (.getfield 93, 3) := by decide +kernel
theorem dX8_combWithTooth_19 : decode cX8_combWithTooth 19 = .ok (.arraylength, 1) := by decide +kernel
theorem dX8_combWithTooth_20 : decode cX8_combWithTooth 20 = .ok (.if_icmp .lt 5, 3) := by decide +kernel
theorem dX8_combWithTooth_23 : decode cX8_combWithTooth 23 = .ok (.aconst_null, 1) := by decide +kernel
theorem dX8_combWithTooth_24 : decode cX8_combWithTooth 24 = .ok (.areturn, 1) := by decide +kernel
theorem dX8_combWithTooth_25 : decode cX8_combWithTooth 25 = .ok (.aload_n 3, 1) := by decide +kernel
theorem dX8_combWithTooth_26 : decode cX8_combWithTooth 26 = .ok (.areturn, 1) := by decide +kernel
theorem dX8_trackOfDrum_0 : decode cX8_trackOfDrum 0 = .ok (.iload_n 1, 1) := by decide +kernel
theorem dX8_trackOfDrum_1 : decode cX8_trackOfDrum 1 = .ok (.invokestatic 26, 3) := by decide +kernel
theorem dX8_trackOfDrum_4 : decode cX8_trackOfDrum 4 = .ok (.ifCond .eq 10, 3) := by decide +kernel
theorem dX8_trackOfDrum_7 : decode cX8_trackOfDrum 7 = .ok (.iload_n 2, 1) := by decide +kernel
theorem dX8_trackOfDrum_8 : decode cX8_trackOfDrum 8 = .ok (.invokestatic 30, 3) := by decide +kernel
theorem dX8_trackOfDrum_11 : decode cX8_trackOfDrum 11 = .ok (.ifCond .ne 10, 3) := by decide +kernel
theorem dX8_trackOfDrum_14 : decode cX8_trackOfDrum 14 = .ok (.aload_n 0, 1) := by decide +kernel
theorem dX8_trackOfDrum_15 : decode cX8_trackOfDrum 15 = .ok (.iconst (-1), 1) := by decide +kernel
theorem dX8_trackOfDrum_16 : decode cX8_trackOfDrum 16 = .ok (.putfield 22, 3) := by decide +kernel
theorem dX8_trackOfDrum_19 : decode cX8_trackOfDrum 19 = .ok (.aconst_null, 1) := by decide +kernel
theorem dX8_trackOfDrum_20 : decode cX8_trackOfDrum 20 = .ok (.areturn, 1) := by decide +kernel
theorem dX8_trackOfDrum_21 : decode cX8_trackOfDrum 21 = .ok (.aload_n 0, 1) := by decide +kernel
theorem dX8_trackOfDrum_22 : decode cX8_trackOfDrum 22 = .ok (.aload_n 0, 1) := by decide +kernel
theorem dX8_trackOfDrum_23 : decode cX8_trackOfDrum 23 = .ok (.getfield 11, 3) := by decide +kernel
theorem dX8_trackOfDrum_26 : decode cX8_trackOfDrum 26 = .ok (.iload_n 1, 1) := by decide +kernel
theorem dX8_trackOfDrum_27 : decode cX8_trackOfDrum 27 = .ok (.aaload, 1) := by decide +kernel
theorem dX8_trackOfDrum_28 : decode cX8_trackOfDrum 28 = .ok (.getfield 41, 3) := by decide +kernel
theorem dX8_trackOfDrum_31 : decode cX8_trackOfDrum 31 = .ok (.iload_n 2, 1) := by decide +kernel
theorem dX8_trackOfDrum_32 : decode cX8_trackOfDrum 32 = .ok (.aaload, 1) := by decide +kernel
theorem dX8_trackOfDrum_33 : decode cX8_trackOfDrum 33 = .ok (.invokevirtual 113, 3) := by decide +kernel
theorem dX8_trackOfDrum_36 : decode cX8_trackOfDrum 36 = .ok (.areturn, 1) := by decide +kernel
theorem dX8_trackOfTooth_0 : decode cX8_trackOfTooth 0 = .ok (.aload_n 0, 1) := by decide +kernel
theorem dX8_trackOfTooth_1 : decode cX8_trackOfTooth 1 = .ok (.iload_n 1, 1) := by decide +kernel
theorem dX8_trackOfTooth_2 : decode cX8_trackOfTooth 2 = .ok (.iload_n 2, 1) := by decide +kernel
theorem dX8_trackOfTooth_3 : decode cX8_trackOfTooth 3 = .ok (.invokevirtual 103, 3) := by decide +kernel
theorem dX8_trackOfTooth_6 : decode cX8_trackOfTooth 6 = .ok (.astore_n 3, 1) := by decide +kernel
theorem dX8_trackOfTooth_7 : decode cX8_trackOfTooth 7 = .ok (.aload_n 3, 1) := by decide +kernel
theorem dX8_trackOfTooth_8 : decode cX8_trackOfTooth 8 = .ok (.ifnonnull 10, 3) := by decide +kernel
theorem dX8_trackOfTooth_11 : decode cX8_trackOfTooth 11 = .ok (.aload_n 0, 1) := by decide +kernel
theorem dX8_trackOfTooth_12 : decode cX8_trackOfTooth 12 = .ok (.iconst (-1), 1) := by decide +kernel
theorem dX8_trackOfTooth_13 : decode cX8_trackOfTooth 13 = .ok (.putfield 22, 3) := by decide +kernel
theorem dX8_trackOfTooth_16 : decode cX8_trackOfTooth 16 = .ok (.aconst_null, 1) := by decide +kernel
theorem dX8_trackOfTooth_17 : decode cX8_trackOfTooth 17 = .ok (.areturn, 1) := by decide +kernel
theorem dX8_trackOfTooth_18 : decode cX8_trackOfTooth 18 = .ok (.aload_n 0, 1) := by decide +kernel
theorem dX8_trackOfTooth_19 : decode cX8_trackOfTooth 19 = .ok (.aload_n 3, 1) := by decide +kernel
theorem dX8_trackOfTooth_20 : decode cX8_trackOfTooth 20 = .ok (.getfield 93, 3) := by decide +kernel
theorem dX8_trackOfTooth_23 : decode cX8_trackOfTooth 23 = .ok (.iload_n 2, 1) := by decide +kernel
theorem dX8_trackOfTooth_24 : decode cX8_trackOfTooth 24 = .ok (.aaload, 1) := by decide +kernel
theorem dX8_trackOfTooth_25 : decode cX8_trackOfTooth 25 = .ok (.invokevirtual 113, 3) := by decide +kernel
theorem dX8_trackOfTooth_28 : decode cX8_trackOfTooth 28 = .ok (.areturn, 1) := by decide +kernel
theorem dX8_wanted_0 : decode cX8_wanted 0 = .ok (.aload_n 0, 1) := by decide +kernel
theorem dX8_wanted_1 : decode cX8_wanted 1 = .ok (.aload_n 1, 1) := by decide +kernel
theorem dX8_wanted_2 : decode cX8_wanted 2 = .ok (.ifnonnull 8, 3) := by decide +kernel
theorem dX8_wanted_5 : decode cX8_wanted 5 = .ok (.bipush (-2), 2) := by decide +kernel
theorem dX8_wanted_7 : decode cX8_wanted 7 = .ok (.goto 4, 3) := by decide +kernel
theorem dX8_wanted_10 : decode cX8_wanted 10 = .ok (.iconst 0, 1) := by decide +kernel
theorem dX8_wanted_11 : decode cX8_wanted 11 = .ok (.putfield 22, 3) := by decide +kernel
theorem dX8_wanted_14 : decode cX8_wanted 14 = .ok (.aload_n 1, 1) := by decide +kernel
theorem dX8_wanted_15 : decode cX8_wanted 15 = .ok (.areturn, 1) := by decide +kernel
theorem dX8_valueIn_0 : decode cX8_valueIn 0 = .ok (.aload_n 1, 1) := by decide +kernel
theorem dX8_valueIn_1 : decode cX8_valueIn 1 = .ok (.ifnonnull 5, 3) := by decide +kernel
theorem dX8_valueIn_4 : decode cX8_valueIn 4 = .ok (.iconst 0, 1) := by decide +kernel
theorem dX8_valueIn_5 : decode cX8_valueIn 5 = .ok (.ireturn, 1) := by decide +kernel
theorem dX8_valueIn_6 : decode cX8_valueIn 6 = .ok (.aload_n 1, 1) := by decide +kernel
theorem dX8_valueIn_7 : decode cX8_valueIn 7 = .ok (.iload_n 2, 1) := by decide +kernel
theorem dX8_valueIn_8 : decode cX8_valueIn 8 = .ok (.invokevirtual 117, 3) := by decide +kernel
theorem dX8_valueIn_11 : decode cX8_valueIn 11 = .ok (.ifCond .ne 12, 3) := by decide +kernel
theorem dX8_valueIn_14 : decode cX8_valueIn 14 = .ok (.aload_n 0, 1) := by decide +kernel
theorem dX8_valueIn_15 : decode cX8_valueIn 15 = .ok (.bipush (-3), 2) := by decide +kernel
theorem dX8_valueIn_17 : decode cX8_valueIn 17 = .ok (.invokevirtual 33, 3) := by decide +kernel
theorem dX8_valueIn_20 : decode cX8_valueIn 20 = .ok (.pop, 1) := by decide +kernel
theorem dX8_valueIn_21 : decode cX8_valueIn 21 = .ok (.iconst 0, 1) := by decide +kernel
theorem dX8_valueIn_22 : decode cX8_valueIn 22 = .ok (.ireturn, 1) := by decide +kernel
theorem dX8_valueIn_23 : decode cX8_valueIn 23 = .ok (.aload_n 1, 1) := by decide +kernel
theorem dX8_valueIn_24 : decode cX8_valueIn 24 = .ok (.iload_n 2, 1) := by decide +kernel
theorem dX8_valueIn_25 : decode cX8_valueIn 25 = .ok (.invokevirtual 120, 3) := by decide +kernel
theorem dX8_valueIn_28 : decode cX8_valueIn 28 = .ok (.ireturn, 1) := by decide +kernel
theorem dX8_putInto_0 : decode cX8_putInto 0 = .ok (.aload_n 1, 1) := by decide +kernel
theorem dX8_putInto_1 : decode cX8_putInto 1 = .ok (.ifnonnull 8, 3) := by decide +kernel
theorem dX8_putInto_4 : decode cX8_putInto 4 = .ok (.aload_n 0, 1) := by decide +kernel
theorem dX8_putInto_5 : decode cX8_putInto 5 = .ok (.getfield 22, 3) := by decide +kernel
theorem dX8_putInto_8 : decode cX8_putInto 8 = .ok (.ireturn, 1) := by decide +kernel
theorem dX8_putInto_9 : decode cX8_putInto 9 = .ok (.aload_n 1, 1) := by decide +kernel
theorem dX8_putInto_10 : decode cX8_putInto 10 = .ok (.iload_n 2, 1) := by decide +kernel
theorem dX8_putInto_11 : decode cX8_putInto 11 = .ok (.invokevirtual 117, 3) := by decide +kernel
theorem dX8_putInto_14 : decode cX8_putInto 14 = .ok (.ifCond .ne 10, 3) := by decide +kernel
theorem dX8_putInto_17 : decode cX8_putInto 17 = .ok (.aload_n 0, 1) := by decide +kernel
theorem dX8_putInto_18 : decode cX8_putInto 18 = .ok (.bipush (-3), 2) := by decide +kernel
theorem dX8_putInto_20 : decode cX8_putInto 20 = .ok (.invokevirtual 33, 3) := by decide +kernel
theorem dX8_putInto_23 : decode cX8_putInto 23 = .ok (.ireturn, 1) := by decide +kernel
theorem dX8_putInto_24 : decode cX8_putInto 24 = .ok (.aload_n 1, 1) := by decide +kernel
theorem dX8_putInto_25 : decode cX8_putInto 25 = .ok (.iload_n 2, 1) := by decide +kernel
theorem dX8_putInto_26 : decode cX8_putInto 26 = .ok (.iload_n 3, 1) := by decide +kernel
theorem dX8_putInto_27 : decode cX8_putInto 27 = .ok (.invokevirtual 123, 3) := by decide +kernel
theorem dX8_putInto_30 : decode cX8_putInto 30 = .ok (.ifCond .eq 7, 3) := by decide +kernel
theorem dX8_putInto_33 : decode cX8_putInto 33 = .ok (.iconst 0, 1) := by decide +kernel
theorem dX8_putInto_34 : decode cX8_putInto 34 = .ok (.goto 9, 3) := by decide +kernel
theorem dX8_putInto_37 : decode cX8_putInto 37 = .ok (.aload_n 0, 1) := by decide +kernel
theorem dX8_putInto_38 : decode cX8_putInto 38 = .ok (.bipush (-5), 2) := by decide +kernel
theorem dX8_putInto_40 : decode cX8_putInto 40 = .ok (.invokevirtual 33, 3) := by decide +kernel
theorem dX8_putInto_43 : decode cX8_putInto 43 = .ok (.ireturn, 1) := by decide +kernel
theorem dX8_alterIn_0 : decode cX8_alterIn 0 = .ok (.aload_n 1, 1) := by decide +kernel
theorem dX8_alterIn_1 : decode cX8_alterIn 1 = .ok (.ifnonnull 8, 3) := by decide +kernel
theorem dX8_alterIn_4 : decode cX8_alterIn 4 = .ok (.aload_n 0, 1) := by decide +kernel
theorem dX8_alterIn_5 : decode cX8_alterIn 5 = .ok (.getfield 22, 3) := by decide +kernel
theorem dX8_alterIn_8 : decode cX8_alterIn 8 = .ok (.ireturn, 1) := by decide +kernel
theorem dX8_alterIn_9 : decode cX8_alterIn 9 = .ok (.aload_n 1, 1) := by decide +kernel
theorem dX8_alterIn_10 : decode cX8_alterIn 10 = .ok (.iload_n 2, 1) := by decide +kernel
theorem dX8_alterIn_11 : decode cX8_alterIn 11 = .ok (.invokevirtual 117, 3) := by decide +kernel
theorem dX8_alterIn_14 : decode cX8_alterIn 14 = .ok (.ifCond .ne 10, 3) := by decide +kernel
theorem dX8_alterIn_17 : decode cX8_alterIn 17 = .ok (.aload_n 0, 1) := by decide +kernel
theorem dX8_alterIn_18 : decode cX8_alterIn 18 = .ok (.bipush (-3), 2) := by decide +kernel
theorem dX8_alterIn_20 : decode cX8_alterIn 20 = .ok (.invokevirtual 33, 3) := by decide +kernel
theorem dX8_alterIn_23 : decode cX8_alterIn 23 = .ok (.ireturn, 1) := by decide +kernel
theorem dX8_alterIn_24 : decode cX8_alterIn 24 = .ok (.aload_n 1, 1) := by decide +kernel
theorem dX8_alterIn_25 : decode cX8_alterIn 25 = .ok (.iload_n 2, 1) := by decide +kernel
theorem dX8_alterIn_26 : decode cX8_alterIn 26 = .ok (.iload_n 3, 1) := by decide +kernel
theorem dX8_alterIn_27 : decode cX8_alterIn 27 = .ok (.invokevirtual 126, 3) := by decide +kernel
theorem dX8_alterIn_30 : decode cX8_alterIn 30 = .ok (.ifCond .eq 7, 3) := by decide +kernel
theorem dX8_alterIn_33 : decode cX8_alterIn 33 = .ok (.iconst 0, 1) := by decide +kernel
theorem dX8_alterIn_34 : decode cX8_alterIn 34 = .ok (.goto 9, 3) := by decide +kernel
theorem dX8_alterIn_37 : decode cX8_alterIn 37 = .ok (.aload_n 0, 1) := by decide +kernel
theorem dX8_alterIn_38 : decode cX8_alterIn 38 = .ok (.bipush (-5), 2) := by decide +kernel
theorem dX8_alterIn_40 : decode cX8_alterIn 40 = .ok (.invokevirtual 33, 3) := by decide +kernel
theorem dX8_alterIn_43 : decode cX8_alterIn 43 = .ok (.ireturn, 1) := by decide +kernel
theorem dX8_newTrack_0 : decode cX8_newTrack 0 = .ok (.iload_n 0, 1) := by decide +kernel
theorem dX8_newTrack_1 : decode cX8_newTrack 1 = .ok (.tableswitch 67 0 3 #[31, 40, 49, 58], 31) := by decide +kernel
theorem dX8_newTrack_32 : decode cX8_newTrack 32 = .ok (.new 129, 3) := by decide +kernel
theorem dX8_newTrack_35 : decode cX8_newTrack 35 = .ok (.dup, 1) := by decide +kernel
theorem dX8_newTrack_36 : decode cX8_newTrack 36 = .ok (.iload_n 1, 1) := by decide +kernel
theorem dX8_newTrack_37 : decode cX8_newTrack 37 = .ok (.invokespecial 131, 3) := by decide +kernel
theorem dX8_newTrack_40 : decode cX8_newTrack 40 = .ok (.areturn, 1) := by decide +kernel
theorem dX8_newTrack_41 : decode cX8_newTrack 41 = .ok (.new 134, 3) := by decide +kernel
theorem dX8_newTrack_44 : decode cX8_newTrack 44 = .ok (.dup, 1) := by decide +kernel
theorem dX8_newTrack_45 : decode cX8_newTrack 45 = .ok (.iload_n 1, 1) := by decide +kernel
theorem dX8_newTrack_46 : decode cX8_newTrack 46 = .ok (.invokespecial 136, 3) := by decide +kernel
theorem dX8_newTrack_49 : decode cX8_newTrack 49 = .ok (.areturn, 1) := by decide +kernel
theorem dX8_newTrack_50 : decode cX8_newTrack 50 = .ok (.new 137, 3) := by decide +kernel
theorem dX8_newTrack_53 : decode cX8_newTrack 53 = .ok (.dup, 1) := by decide +kernel
theorem dX8_newTrack_54 : decode cX8_newTrack 54 = .ok (.iload_n 1, 1) := by decide +kernel
theorem dX8_newTrack_55 : decode cX8_newTrack 55 = .ok (.invokespecial 139, 3) := by decide +kernel
theorem dX8_newTrack_58 : decode cX8_newTrack 58 = .ok (.areturn, 1) := by decide +kernel
theorem dX8_newTrack_59 : decode cX8_newTrack 59 = .ok (.new 140, 3) := by decide +kernel
theorem dX8_newTrack_62 : decode cX8_newTrack 62 = .ok (.dup, 1) := by decide +kernel
theorem dX8_newTrack_63 : decode cX8_newTrack 63 = .ok (.iload_n 1, 1) := by decide +kernel
theorem dX8_newTrack_64 : decode cX8_newTrack 64 = .ok (.invokespecial 142, 3) := by decide +kernel
theorem dX8_newTrack_67 : decode cX8_newTrack 67 = .ok (.areturn, 1) := by decide +kernel
theorem dX8_newTrack_68 : decode cX8_newTrack 68 = .ok (.new 143, 3) := by decide +kernel
theorem dX8_newTrack_71 : decode cX8_newTrack 71 = .ok (.dup, 1) := by decide +kernel
theorem dX8_newTrack_72 : decode cX8_newTrack 72 = .ok (.iload_n 1, 1) := by decide +kernel
theorem dX8_newTrack_73 : decode cX8_newTrack 73 = .ok (.invokespecial 145, 3) := by decide +kernel
theorem dX8_newTrack_76 : decode cX8_newTrack 76 = .ok (.areturn, 1) := by decide +kernel
