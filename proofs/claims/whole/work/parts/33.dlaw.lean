theorem dL_addBar_0 : decode cL_addBar 0 = .ok (.aload_n 3, 1) := by decide +kernel
theorem dL_addBar_1 : decode cL_addBar 1 = .ok (.iconst 0, 1) := by decide +kernel
theorem dL_addBar_2 : decode cL_addBar 2 = .ok (.aload_n 0, 1) := by decide +kernel
theorem dL_addBar_3 : decode cL_addBar 3 = .ok (.iload_n 1, 1) := by decide +kernel
theorem dL_addBar_4 : decode cL_addBar 4 = .ok (.iload_n 2, 1) := by decide +kernel
theorem dL_addBar_5 : decode cL_addBar 5 = .ok (.invokevirtual 7, 3) := by decide +kernel
theorem dL_addBar_8 : decode cL_addBar 8 = .ok (.i2l, 1) := by decide +kernel
theorem dL_addBar_9 : decode cL_addBar 9 = .ok (.lastore, 1) := by decide +kernel
theorem dL_addBar_10 : decode cL_addBar 10 = .ok (.goto 11, 3) := by decide +kernel
theorem dL_addBar_13 : decode cL_addBar 13 = .ok (.astore 4, 2) := by decide +kernel
theorem dL_addBar_15 : decode cL_addBar 15 = .ok (.iconst 1, 1) := by decide +kernel
theorem dL_addBar_16 : decode cL_addBar 16 = .ok (.ireturn, 1) := by decide +kernel
theorem dL_addBar_17 : decode cL_addBar 17 = .ok (.astore 4, 2) := by decide +kernel
theorem dL_addBar_19 : decode cL_addBar 19 = .ok (.iconst 2, 1) := by decide +kernel
theorem dL_addBar_20 : decode cL_addBar 20 = .ok (.ireturn, 1) := by decide +kernel
theorem dL_addBar_21 : decode cL_addBar 21 = .ok (.iconst 0, 1) := by decide +kernel
theorem dL_addBar_22 : decode cL_addBar 22 = .ok (.ireturn, 1) := by decide +kernel
theorem dL_setMetre_0 : decode cL_setMetre 0 = .ok (.aload 4, 2) := by decide +kernel
theorem dL_setMetre_2 : decode cL_setMetre 2 = .ok (.iconst 0, 1) := by decide +kernel
theorem dL_setMetre_3 : decode cL_setMetre 3 = .ok (.aload_n 0, 1) := by decide +kernel
theorem dL_setMetre_4 : decode cL_setMetre 4 = .ok (.iload_n 1, 1) := by decide +kernel
theorem dL_setMetre_5 : decode cL_setMetre 5 = .ok (.iload_n 2, 1) := by decide +kernel
theorem dL_setMetre_6 : decode cL_setMetre 6 = .ok (.iload_n 3, 1) := by decide +kernel
theorem dL_setMetre_7 : decode cL_setMetre 7 = .ok (.invokevirtual 17, 3) := by decide +kernel
theorem dL_setMetre_10 : decode cL_setMetre 10 = .ok (.i2l, 1) := by decide +kernel
theorem dL_setMetre_11 : decode cL_setMetre 11 = .ok (.lastore, 1) := by decide +kernel
theorem dL_setMetre_12 : decode cL_setMetre 12 = .ok (.goto 15, 3) := by decide +kernel
theorem dL_setMetre_15 : decode cL_setMetre 15 = .ok (.astore 5, 2) := by decide +kernel
theorem dL_setMetre_17 : decode cL_setMetre 17 = .ok (.iconst 1, 1) := by decide +kernel
theorem dL_setMetre_18 : decode cL_setMetre 18 = .ok (.ireturn, 1) := by decide +kernel
theorem dL_setMetre_19 : decode cL_setMetre 19 = .ok (.astore 5, 2) := by decide +kernel
theorem dL_setMetre_21 : decode cL_setMetre 21 = .ok (.iconst 2, 1) := by decide +kernel
theorem dL_setMetre_22 : decode cL_setMetre 22 = .ok (.ireturn, 1) := by decide +kernel
theorem dL_setMetre_23 : decode cL_setMetre 23 = .ok (.astore 5, 2) := by decide +kernel
theorem dL_setMetre_25 : decode cL_setMetre 25 = .ok (.iconst 3, 1) := by decide +kernel
theorem dL_setMetre_26 : decode cL_setMetre 26 = .ok (.ireturn, 1) := by decide +kernel
theorem dL_setMetre_27 : decode cL_setMetre 27 = .ok (.iconst 0, 1) := by decide +kernel
theorem dL_setMetre_28 : decode cL_setMetre 28 = .ok (.ireturn, 1) := by decide +kernel
theorem dL_setTempo_0 : decode cL_setTempo 0 = .ok (.aload_n 3, 1) := by decide +kernel
theorem dL_setTempo_1 : decode cL_setTempo 1 = .ok (.iconst 0, 1) := by decide +kernel
theorem dL_setTempo_2 : decode cL_setTempo 2 = .ok (.aload_n 0, 1) := by decide +kernel
theorem dL_setTempo_3 : decode cL_setTempo 3 = .ok (.iload_n 1, 1) := by decide +kernel
theorem dL_setTempo_4 : decode cL_setTempo 4 = .ok (.iload_n 2, 1) := by decide +kernel
theorem dL_setTempo_5 : decode cL_setTempo 5 = .ok (.invokevirtual 23, 3) := by decide +kernel
theorem dL_setTempo_8 : decode cL_setTempo 8 = .ok (.i2l, 1) := by decide +kernel
theorem dL_setTempo_9 : decode cL_setTempo 9 = .ok (.lastore, 1) := by decide +kernel
theorem dL_setTempo_10 : decode cL_setTempo 10 = .ok (.goto 11, 3) := by decide +kernel
theorem dL_setTempo_13 : decode cL_setTempo 13 = .ok (.astore 4, 2) := by decide +kernel
theorem dL_setTempo_15 : decode cL_setTempo 15 = .ok (.iconst 1, 1) := by decide +kernel
theorem dL_setTempo_16 : decode cL_setTempo 16 = .ok (.ireturn, 1) := by decide +kernel
theorem dL_setTempo_17 : decode cL_setTempo 17 = .ok (.astore 4, 2) := by decide +kernel
theorem dL_setTempo_19 : decode cL_setTempo 19 = .ok (.iconst 2, 1) := by decide +kernel
theorem dL_setTempo_20 : decode cL_setTempo 20 = .ok (.ireturn, 1) := by decide +kernel
theorem dL_setTempo_21 : decode cL_setTempo 21 = .ok (.iconst 0, 1) := by decide +kernel
theorem dL_setTempo_22 : decode cL_setTempo 22 = .ok (.ireturn, 1) := by decide +kernel
theorem dL_length_0 : decode cL_length 0 = .ok (.aload_n 2, 1) := by decide +kernel
theorem dL_length_1 : decode cL_length 1 = .ok (.iconst 0, 1) := by decide +kernel
theorem dL_length_2 : decode cL_length 2 = .ok (.aload_n 0, 1) := by decide +kernel
theorem dL_length_3 : decode cL_length 3 = .ok (.iload_n 1, 1) := by decide +kernel
theorem dL_length_4 : decode cL_length 4 = .ok (.invokevirtual 26, 3) := by decide +kernel
theorem dL_length_7 : decode cL_length 7 = .ok (.i2l, 1) := by decide +kernel
theorem dL_length_8 : decode cL_length 8 = .ok (.lastore, 1) := by decide +kernel
theorem dL_length_9 : decode cL_length 9 = .ok (.goto 6, 3) := by decide +kernel
theorem dL_length_12 : decode cL_length 12 = .ok (.astore_n 3, 1) := by decide +kernel
theorem dL_length_13 : decode cL_length 13 = .ok (.iconst 1, 1) := by decide +kernel
theorem dL_length_14 : decode cL_length 14 = .ok (.ireturn, 1) := by decide +kernel
theorem dL_length_15 : decode cL_length 15 = .ok (.iconst 0, 1) := by decide +kernel
theorem dL_length_16 : decode cL_length 16 = .ok (.ireturn, 1) := by decide +kernel
theorem dL_tempo_0 : decode cL_tempo 0 = .ok (.aload_n 2, 1) := by decide +kernel
theorem dL_tempo_1 : decode cL_tempo 1 = .ok (.iconst 0, 1) := by decide +kernel
theorem dL_tempo_2 : decode cL_tempo 2 = .ok (.aload_n 0, 1) := by decide +kernel
theorem dL_tempo_3 : decode cL_tempo 3 = .ok (.iload_n 1, 1) := by decide +kernel
theorem dL_tempo_4 : decode cL_tempo 4 = .ok (.invokevirtual 30, 3) := by decide +kernel
theorem dL_tempo_7 : decode cL_tempo 7 = .ok (.i2l, 1) := by decide +kernel
theorem dL_tempo_8 : decode cL_tempo 8 = .ok (.lastore, 1) := by decide +kernel
theorem dL_tempo_9 : decode cL_tempo 9 = .ok (.goto 6, 3) := by decide +kernel
theorem dL_tempo_12 : decode cL_tempo 12 = .ok (.astore_n 3, 1) := by decide +kernel
theorem dL_tempo_13 : decode cL_tempo 13 = .ok (.iconst 1, 1) := by decide +kernel
theorem dL_tempo_14 : decode cL_tempo 14 = .ok (.ireturn, 1) := by decide +kernel
theorem dL_tempo_15 : decode cL_tempo 15 = .ok (.iconst 0, 1) := by decide +kernel
theorem dL_tempo_16 : decode cL_tempo 16 = .ok (.ireturn, 1) := by decide +kernel
theorem dL_time_0 : decode cL_time 0 = .ok (.aload_n 2, 1) := by decide +kernel
theorem dL_time_1 : decode cL_time 1 = .ok (.iconst 0, 1) := by decide +kernel
theorem dL_time_2 : decode cL_time 2 = .ok (.aload_n 0, 1) := by decide +kernel
theorem dL_time_3 : decode cL_time 3 = .ok (.iload_n 1, 1) := by decide +kernel
theorem dL_time_4 : decode cL_time 4 = .ok (.invokevirtual 33, 3) := by decide +kernel
theorem dL_time_7 : decode cL_time 7 = .ok (.i2l, 1) := by decide +kernel
theorem dL_time_8 : decode cL_time 8 = .ok (.lastore, 1) := by decide +kernel
theorem dL_time_9 : decode cL_time 9 = .ok (.goto 6, 3) := by decide +kernel
theorem dL_time_12 : decode cL_time 12 = .ok (.astore_n 3, 1) := by decide +kernel
theorem dL_time_13 : decode cL_time 13 = .ok (.iconst 1, 1) := by decide +kernel
theorem dL_time_14 : decode cL_time 14 = .ok (.ireturn, 1) := by decide +kernel
theorem dL_time_15 : decode cL_time 15 = .ok (.iconst 0, 1) := by decide +kernel
theorem dL_time_16 : decode cL_time 16 = .ok (.ireturn, 1) := by decide +kernel
theorem dL_insert_0 : decode cL_insert 0 = .ok (.aload 7, 2) := by decide +kernel
theorem dL_insert_2 : decode cL_insert 2 = .ok (.iconst 0, 1) := by decide +kernel
theorem dL_insert_3 : decode cL_insert 3 = .ok (.aload_n 0, 1) := by decide +kernel
theorem dL_insert_4 : decode cL_insert 4 = .ok (.iload_n 1, 1) := by decide +kernel
theorem dL_insert_5 : decode cL_insert 5 = .ok (.iload_n 2, 1) := by decide +kernel
theorem dL_insert_6 : decode cL_insert 6 = .ok (.iload_n 3, 1) := by decide +kernel
theorem dL_insert_7 : decode cL_insert 7 = .ok (.iload 4, 2) := by decide +kernel
theorem dL_insert_9 : decode cL_insert 9 = .ok (.iload 5, 2) := by decide +kernel
theorem dL_insert_11 : decode cL_insert 11 = .ok (.iload 6, 2) := by decide +kernel
theorem dL_insert_13 : decode cL_insert 13 = .ok (.invokevirtual 36, 3) := by decide +kernel
theorem dL_insert_16 : decode cL_insert 16 = .ok (.i2l, 1) := by decide +kernel
theorem dL_insert_17 : decode cL_insert 17 = .ok (.lastore, 1) := by decide +kernel
theorem dL_insert_18 : decode cL_insert 18 = .ok (.goto 15, 3) := by decide +kernel
theorem dL_insert_21 : decode cL_insert 21 = .ok (.astore 8, 2) := by decide +kernel
theorem dL_insert_23 : decode cL_insert 23 = .ok (.iconst 1, 1) := by decide +kernel
theorem dL_insert_24 : decode cL_insert 24 = .ok (.ireturn, 1) := by decide +kernel
theorem dL_insert_25 : decode cL_insert 25 = .ok (.astore 8, 2) := by decide +kernel
theorem dL_insert_27 : decode cL_insert 27 = .ok (.iconst 2, 1) := by decide +kernel
theorem dL_insert_28 : decode cL_insert 28 = .ok (.ireturn, 1) := by decide +kernel
theorem dL_insert_29 : decode cL_insert 29 = .ok (.astore 8, 2) := by decide +kernel
theorem dL_insert_31 : decode cL_insert 31 = .ok (.iconst 3, 1) := by decide +kernel
theorem dL_insert_32 : decode cL_insert 32 = .ok (.ireturn, 1) := by decide +kernel
theorem dL_insert_33 : decode cL_insert 33 = .ok (.iconst 0, 1) := by decide +kernel
theorem dL_insert_34 : decode cL_insert 34 = .ok (.ireturn, 1) := by decide +kernel
theorem dL_remove_0 : decode cL_remove 0 = .ok (.aload 4, 2) := by decide +kernel
theorem dL_remove_2 : decode cL_remove 2 = .ok (.iconst 0, 1) := by decide +kernel
theorem dL_remove_3 : decode cL_remove 3 = .ok (.aload_n 0, 1) := by decide +kernel
theorem dL_remove_4 : decode cL_remove 4 = .ok (.iload_n 1, 1) := by decide +kernel
theorem dL_remove_5 : decode cL_remove 5 = .ok (.iload_n 2, 1) := by decide +kernel
theorem dL_remove_6 : decode cL_remove 6 = .ok (.iload_n 3, 1) := by decide +kernel
theorem dL_remove_7 : decode cL_remove 7 = .ok (.invokevirtual 40, 3) := by decide +kernel
theorem dL_remove_10 : decode cL_remove 10 = .ok (.i2l, 1) := by decide +kernel
theorem dL_remove_11 : decode cL_remove 11 = .ok (.lastore, 1) := by decide +kernel
theorem dL_remove_12 : decode cL_remove 12 = .ok (.goto 11, 3) := by decide +kernel
theorem dL_remove_15 : decode cL_remove 15 = .ok (.astore 5, 2) := by decide +kernel
theorem dL_remove_17 : decode cL_remove 17 = .ok (.iconst 1, 1) := by decide +kernel
theorem dL_remove_18 : decode cL_remove 18 = .ok (.ireturn, 1) := by decide +kernel
theorem dL_remove_19 : decode cL_remove 19 = .ok (.astore 5, 2) := by decide +kernel
theorem dL_remove_21 : decode cL_remove 21 = .ok (.iconst 2, 1) := by decide +kernel
theorem dL_remove_22 : decode cL_remove 22 = .ok (.ireturn, 1) := by decide +kernel
theorem dL_remove_23 : decode cL_remove 23 = .ok (.iconst 0, 1) := by decide +kernel
theorem dL_remove_24 : decode cL_remove 24 = .ok (.ireturn, 1) := by decide +kernel
theorem dL_setPitch_0 : decode cL_setPitch 0 = .ok (.aload 5, 2) := by decide +kernel
theorem dL_setPitch_2 : decode cL_setPitch 2 = .ok (.iconst 0, 1) := by decide +kernel
theorem dL_setPitch_3 : decode cL_setPitch 3 = .ok (.aload_n 0, 1) := by decide +kernel
theorem dL_setPitch_4 : decode cL_setPitch 4 = .ok (.iload_n 1, 1) := by decide +kernel
theorem dL_setPitch_5 : decode cL_setPitch 5 = .ok (.iload_n 2, 1) := by decide +kernel
theorem dL_setPitch_6 : decode cL_setPitch 6 = .ok (.iload_n 3, 1) := by decide +kernel
theorem dL_setPitch_7 : decode cL_setPitch 7 = .ok (.iload 4, 2) := by decide +kernel
theorem dL_setPitch_9 : decode cL_setPitch 9 = .ok (.invokevirtual 43, 3) := by decide +kernel
theorem dL_setPitch_12 : decode cL_setPitch 12 = .ok (.i2l, 1) := by decide +kernel
theorem dL_setPitch_13 : decode cL_setPitch 13 = .ok (.lastore, 1) := by decide +kernel
theorem dL_setPitch_14 : decode cL_setPitch 14 = .ok (.goto 15, 3) := by decide +kernel
theorem dL_setPitch_17 : decode cL_setPitch 17 = .ok (.astore 6, 2) := by decide +kernel
theorem dL_setPitch_19 : decode cL_setPitch 19 = .ok (.iconst 1, 1) := by decide +kernel
theorem dL_setPitch_20 : decode cL_setPitch 20 = .ok (.ireturn, 1) := by decide +kernel
theorem dL_setPitch_21 : decode cL_setPitch 21 = .ok (.astore 6, 2) := by decide +kernel
theorem dL_setPitch_23 : decode cL_setPitch 23 = .ok (.iconst 2, 1) := by decide +kernel
theorem dL_setPitch_24 : decode cL_setPitch 24 = .ok (.ireturn, 1) := by decide +kernel
theorem dL_setPitch_25 : decode cL_setPitch 25 = .ok (.astore 6, 2) := by decide +kernel
theorem dL_setPitch_27 : decode cL_setPitch 27 = .ok (.iconst 3, 1) := by decide +kernel
theorem dL_setPitch_28 : decode cL_setPitch 28 = .ok (.ireturn, 1) := by decide +kernel
theorem dL_setPitch_29 : decode cL_setPitch 29 = .ok (.iconst 0, 1) := by decide +kernel
theorem dL_setPitch_30 : decode cL_setPitch 30 = .ok (.ireturn, 1) := by decide +kernel
theorem dL_setTie_0 : decode cL_setTie 0 = .ok (.aload 5, 2) := by decide +kernel
theorem dL_setTie_2 : decode cL_setTie 2 = .ok (.iconst 0, 1) := by decide +kernel
theorem dL_setTie_3 : decode cL_setTie 3 = .ok (.aload_n 0, 1) := by decide +kernel
theorem dL_setTie_4 : decode cL_setTie 4 = .ok (.iload_n 1, 1) := by decide +kernel
theorem dL_setTie_5 : decode cL_setTie 5 = .ok (.iload_n 2, 1) := by decide +kernel
theorem dL_setTie_6 : decode cL_setTie 6 = .ok (.iload_n 3, 1) := by decide +kernel
theorem dL_setTie_7 : decode cL_setTie 7 = .ok (.iload 4, 2) := by decide +kernel
theorem dL_setTie_9 : decode cL_setTie 9 = .ok (.invokevirtual 47, 3) := by decide +kernel
theorem dL_setTie_12 : decode cL_setTie 12 = .ok (.ifCond .eq 7, 3) := by decide +kernel
theorem dL_setTie_15 : decode cL_setTie 15 = .ok (.lconst 1, 1) := by decide +kernel
theorem dL_setTie_16 : decode cL_setTie 16 = .ok (.goto 4, 3) := by decide +kernel
theorem dL_setTie_19 : decode cL_setTie 19 = .ok (.lconst 0, 1) := by decide +kernel
theorem dL_setTie_20 : decode cL_setTie 20 = .ok (.lastore, 1) := by decide +kernel
theorem dL_setTie_21 : decode cL_setTie 21 = .ok (.goto 15, 3) := by decide +kernel
theorem dL_setTie_24 : decode cL_setTie 24 = .ok (.astore 6, 2) := by decide +kernel
theorem dL_setTie_26 : decode cL_setTie 26 = .ok (.iconst 1, 1) := by decide +kernel
theorem dL_setTie_27 : decode cL_setTie 27 = .ok (.ireturn, 1) := by decide +kernel
theorem dL_setTie_28 : decode cL_setTie 28 = .ok (.astore 6, 2) := by decide +kernel
theorem dL_setTie_30 : decode cL_setTie 30 = .ok (.iconst 2, 1) := by decide +kernel
theorem dL_setTie_31 : decode cL_setTie 31 = .ok (.ireturn, 1) := by decide +kernel
theorem dL_setTie_32 : decode cL_setTie 32 = .ok (.astore 6, 2) := by decide +kernel
theorem dL_setTie_34 : decode cL_setTie 34 = .ok (.iconst 3, 1) := by decide +kernel
theorem dL_setTie_35 : decode cL_setTie 35 = .ok (.ireturn, 1) := by decide +kernel
theorem dL_setTie_36 : decode cL_setTie 36 = .ok (.iconst 0, 1) := by decide +kernel
theorem dL_setTie_37 : decode cL_setTie 37 = .ok (.ireturn, 1) := by decide +kernel
theorem dL_setMark_0 : decode cL_setMark 0 = .ok (.aload 5, 2) := by decide +kernel
theorem dL_setMark_2 : decode cL_setMark 2 = .ok (.iconst 0, 1) := by decide +kernel
theorem dL_setMark_3 : decode cL_setMark 3 = .ok (.aload_n 0, 1) := by decide +kernel
theorem dL_setMark_4 : decode cL_setMark 4 = .ok (.iload_n 1, 1) := by decide +kernel
theorem dL_setMark_5 : decode cL_setMark 5 = .ok (.iload_n 2, 1) := by decide +kernel
theorem dL_setMark_6 : decode cL_setMark 6 = .ok (.iload_n 3, 1) := by decide +kernel
theorem dL_setMark_7 : decode cL_setMark 7 = .ok (.iload 4, 2) := by decide +kernel
theorem dL_setMark_9 : decode cL_setMark 9 = .ok (.invokevirtual 51, 3) := by decide +kernel
theorem dL_setMark_12 : decode cL_setMark 12 = .ok (.i2l, 1) := by decide +kernel
theorem dL_setMark_13 : decode cL_setMark 13 = .ok (.lastore, 1) := by decide +kernel
theorem dL_setMark_14 : decode cL_setMark 14 = .ok (.goto 11, 3) := by decide +kernel
theorem dL_setMark_17 : decode cL_setMark 17 = .ok (.astore 6, 2) := by decide +kernel
theorem dL_setMark_19 : decode cL_setMark 19 = .ok (.iconst 1, 1) := by decide +kernel
theorem dL_setMark_20 : decode cL_setMark 20 = .ok (.ireturn, 1) := by decide +kernel
theorem dL_setMark_21 : decode cL_setMark 21 = .ok (.astore 6, 2) := by decide +kernel
theorem dL_setMark_23 : decode cL_setMark 23 = .ok (.iconst 2, 1) := by decide +kernel
theorem dL_setMark_24 : decode cL_setMark 24 = .ok (.ireturn, 1) := by decide +kernel
theorem dL_setMark_25 : decode cL_setMark 25 = .ok (.iconst 0, 1) := by decide +kernel
theorem dL_setMark_26 : decode cL_setMark 26 = .ok (.ireturn, 1) := by decide +kernel
theorem dL_transpose_0 : decode cL_transpose 0 = .ok (.aload_n 3, 1) := by decide +kernel
theorem dL_transpose_1 : decode cL_transpose 1 = .ok (.iconst 0, 1) := by decide +kernel
theorem dL_transpose_2 : decode cL_transpose 2 = .ok (.aload_n 0, 1) := by decide +kernel
theorem dL_transpose_3 : decode cL_transpose 3 = .ok (.iload_n 1, 1) := by decide +kernel
theorem dL_transpose_4 : decode cL_transpose 4 = .ok (.iload_n 2, 1) := by decide +kernel
theorem dL_transpose_5 : decode cL_transpose 5 = .ok (.invokevirtual 54, 3) := by decide +kernel
theorem dL_transpose_8 : decode cL_transpose 8 = .ok (.i2l, 1) := by decide +kernel
theorem dL_transpose_9 : decode cL_transpose 9 = .ok (.lastore, 1) := by decide +kernel
theorem dL_transpose_10 : decode cL_transpose 10 = .ok (.goto 11, 3) := by decide +kernel
theorem dL_transpose_13 : decode cL_transpose 13 = .ok (.astore 4, 2) := by decide +kernel
theorem dL_transpose_15 : decode cL_transpose 15 = .ok (.iconst 1, 1) := by decide +kernel
theorem dL_transpose_16 : decode cL_transpose 16 = .ok (.ireturn, 1) := by decide +kernel
theorem dL_transpose_17 : decode cL_transpose 17 = .ok (.astore 4, 2) := by decide +kernel
theorem dL_transpose_19 : decode cL_transpose 19 = .ok (.iconst 2, 1) := by decide +kernel
theorem dL_transpose_20 : decode cL_transpose 20 = .ok (.ireturn, 1) := by decide +kernel
theorem dL_transpose_21 : decode cL_transpose 21 = .ok (.iconst 0, 1) := by decide +kernel
theorem dL_transpose_22 : decode cL_transpose 22 = .ok (.ireturn, 1) := by decide +kernel
theorem dL_events_0 : decode cL_events 0 = .ok (.aload_n 3, 1) := by decide +kernel
theorem dL_events_1 : decode cL_events 1 = .ok (.iconst 0, 1) := by decide +kernel
theorem dL_events_2 : decode cL_events 2 = .ok (.aload_n 0, 1) := by decide +kernel
theorem dL_events_3 : decode cL_events 3 = .ok (.iload_n 1, 1) := by decide +kernel
theorem dL_events_4 : decode cL_events 4 = .ok (.iload_n 2, 1) := by decide +kernel
theorem dL_events_5 : decode cL_events 5 = .ok (.invokevirtual 57, 3) := by decide +kernel
theorem dL_events_8 : decode cL_events 8 = .ok (.i2l, 1) := by decide +kernel
theorem dL_events_9 : decode cL_events 9 = .ok (.lastore, 1) := by decide +kernel
theorem dL_events_10 : decode cL_events 10 = .ok (.goto 11, 3) := by decide +kernel
theorem dL_events_13 : decode cL_events 13 = .ok (.astore 4, 2) := by decide +kernel
theorem dL_events_15 : decode cL_events 15 = .ok (.iconst 1, 1) := by decide +kernel
theorem dL_events_16 : decode cL_events 16 = .ok (.ireturn, 1) := by decide +kernel
theorem dL_events_17 : decode cL_events 17 = .ok (.astore 4, 2) := by decide +kernel
theorem dL_events_19 : decode cL_events 19 = .ok (.iconst 2, 1) := by decide +kernel
theorem dL_events_20 : decode cL_events 20 = .ok (.ireturn, 1) := by decide +kernel
theorem dL_events_21 : decode cL_events 21 = .ok (.iconst 0, 1) := by decide +kernel
theorem dL_events_22 : decode cL_events 22 = .ok (.ireturn, 1) := by decide +kernel
theorem dL_left_0 : decode cL_left 0 = .ok (.aload_n 3, 1) := by decide +kernel
theorem dL_left_1 : decode cL_left 1 = .ok (.iconst 0, 1) := by decide +kernel
theorem dL_left_2 : decode cL_left 2 = .ok (.aload_n 0, 1) := by decide +kernel
theorem dL_left_3 : decode cL_left 3 = .ok (.iload_n 1, 1) := by decide +kernel
theorem dL_left_4 : decode cL_left 4 = .ok (.iload_n 2, 1) := by decide +kernel
theorem dL_left_5 : decode cL_left 5 = .ok (.invokevirtual 60, 3) := by decide +kernel
theorem dL_left_8 : decode cL_left 8 = .ok (.i2l, 1) := by decide +kernel
theorem dL_left_9 : decode cL_left 9 = .ok (.lastore, 1) := by decide +kernel
theorem dL_left_10 : decode cL_left 10 = .ok (.goto 11, 3) := by decide +kernel
theorem dL_left_13 : decode cL_left 13 = .ok (.astore 4, 2) := by decide +kernel
theorem dL_left_15 : decode cL_left 15 = .ok (.iconst 1, 1) := by decide +kernel
theorem dL_left_16 : decode cL_left 16 = .ok (.ireturn, 1) := by decide +kernel
theorem dL_left_17 : decode cL_left 17 = .ok (.astore 4, 2) := by decide +kernel
theorem dL_left_19 : decode cL_left 19 = .ok (.iconst 2, 1) := by decide +kernel
theorem dL_left_20 : decode cL_left 20 = .ok (.ireturn, 1) := by decide +kernel
theorem dL_left_21 : decode cL_left 21 = .ok (.iconst 0, 1) := by decide +kernel
theorem dL_left_22 : decode cL_left 22 = .ok (.ireturn, 1) := by decide +kernel
theorem dL_isRight_0 : decode cL_isRight 0 = .ok (.aload_n 3, 1) := by decide +kernel
theorem dL_isRight_1 : decode cL_isRight 1 = .ok (.iconst 0, 1) := by decide +kernel
theorem dL_isRight_2 : decode cL_isRight 2 = .ok (.aload_n 0, 1) := by decide +kernel
theorem dL_isRight_3 : decode cL_isRight 3 = .ok (.iload_n 1, 1) := by decide +kernel
theorem dL_isRight_4 : decode cL_isRight 4 = .ok (.iload_n 2, 1) := by decide +kernel
theorem dL_isRight_5 : decode cL_isRight 5 = .ok (.invokevirtual 63, 3) := by decide +kernel
theorem dL_isRight_8 : decode cL_isRight 8 = .ok (.ifCond .eq 7, 3) := by decide +kernel
theorem dL_isRight_11 : decode cL_isRight 11 = .ok (.lconst 1, 1) := by decide +kernel
theorem dL_isRight_12 : decode cL_isRight 12 = .ok (.goto 4, 3) := by decide +kernel
theorem dL_isRight_15 : decode cL_isRight 15 = .ok (.lconst 0, 1) := by decide +kernel
theorem dL_isRight_16 : decode cL_isRight 16 = .ok (.lastore, 1) := by decide +kernel
theorem dL_isRight_17 : decode cL_isRight 17 = .ok (.goto 11, 3) := by decide +kernel
theorem dL_isRight_20 : decode cL_isRight 20 = .ok (.astore 4, 2) := by decide +kernel
theorem dL_isRight_22 : decode cL_isRight 22 = .ok (.iconst 1, 1) := by decide +kernel
theorem dL_isRight_23 : decode cL_isRight 23 = .ok (.ireturn, 1) := by decide +kernel
theorem dL_isRight_24 : decode cL_isRight 24 = .ok (.astore 4, 2) := by decide +kernel
theorem dL_isRight_26 : decode cL_isRight 26 = .ok (.iconst 2, 1) := by decide +kernel
theorem dL_isRight_27 : decode cL_isRight 27 = .ok (.ireturn, 1) := by decide +kernel
theorem dL_isRight_28 : decode cL_isRight 28 = .ok (.iconst 0, 1) := by decide +kernel
theorem dL_isRight_29 : decode cL_isRight 29 = .ok (.ireturn, 1) := by decide +kernel
theorem dL_written_0 : decode cL_written 0 = .ok (.aload 4, 2) := by decide +kernel
theorem dL_written_2 : decode cL_written 2 = .ok (.iconst 0, 1) := by decide +kernel
theorem dL_written_3 : decode cL_written 3 = .ok (.aload_n 0, 1) := by decide +kernel
theorem dL_written_4 : decode cL_written 4 = .ok (.iload_n 1, 1) := by decide +kernel
theorem dL_written_5 : decode cL_written 5 = .ok (.iload_n 2, 1) := by decide +kernel
theorem dL_written_6 : decode cL_written 6 = .ok (.iload_n 3, 1) := by decide +kernel
theorem dL_written_7 : decode cL_written 7 = .ok (.invokevirtual 67, 3) := by decide +kernel
theorem dL_written_10 : decode cL_written 10 = .ok (.i2l, 1) := by decide +kernel
theorem dL_written_11 : decode cL_written 11 = .ok (.lastore, 1) := by decide +kernel
theorem dL_written_12 : decode cL_written 12 = .ok (.goto 11, 3) := by decide +kernel
theorem dL_written_15 : decode cL_written 15 = .ok (.astore 5, 2) := by decide +kernel
theorem dL_written_17 : decode cL_written 17 = .ok (.iconst 1, 1) := by decide +kernel
theorem dL_written_18 : decode cL_written 18 = .ok (.ireturn, 1) := by decide +kernel
theorem dL_written_19 : decode cL_written 19 = .ok (.astore 5, 2) := by decide +kernel
theorem dL_written_21 : decode cL_written 21 = .ok (.iconst 2, 1) := by decide +kernel
theorem dL_written_22 : decode cL_written 22 = .ok (.ireturn, 1) := by decide +kernel
theorem dL_written_23 : decode cL_written 23 = .ok (.iconst 0, 1) := by decide +kernel
theorem dL_written_24 : decode cL_written 24 = .ok (.ireturn, 1) := by decide +kernel
theorem dL_addPhrase_0 : decode cL_addPhrase 0 = .ok (.aload 6, 2) := by decide +kernel
theorem dL_addPhrase_2 : decode cL_addPhrase 2 = .ok (.iconst 0, 1) := by decide +kernel
theorem dL_addPhrase_3 : decode cL_addPhrase 3 = .ok (.aload_n 0, 1) := by decide +kernel
theorem dL_addPhrase_4 : decode cL_addPhrase 4 = .ok (.iload_n 1, 1) := by decide +kernel
theorem dL_addPhrase_5 : decode cL_addPhrase 5 = .ok (.iload_n 2, 1) := by decide +kernel
theorem dL_addPhrase_6 : decode cL_addPhrase 6 = .ok (.iload_n 3, 1) := by decide +kernel
theorem dL_addPhrase_7 : decode cL_addPhrase 7 = .ok (.iload 4, 2) := by decide +kernel
theorem dL_addPhrase_9 : decode cL_addPhrase 9 = .ok (.iload 5, 2) := by decide +kernel
theorem dL_addPhrase_11 : decode cL_addPhrase 11 = .ok (.invokevirtual 70, 3) := by decide +kernel
theorem dL_addPhrase_14 : decode cL_addPhrase 14 = .ok (.i2l, 1) := by decide +kernel
theorem dL_addPhrase_15 : decode cL_addPhrase 15 = .ok (.lastore, 1) := by decide +kernel
theorem dL_addPhrase_16 : decode cL_addPhrase 16 = .ok (.goto 15, 3) := by decide +kernel
theorem dL_addPhrase_19 : decode cL_addPhrase 19 = .ok (.astore 7, 2) := by decide +kernel
theorem dL_addPhrase_21 : decode cL_addPhrase 21 = .ok (.iconst 1, 1) := by decide +kernel
theorem dL_addPhrase_22 : decode cL_addPhrase 22 = .ok (.ireturn, 1) := by decide +kernel
theorem dL_addPhrase_23 : decode cL_addPhrase 23 = .ok (.astore 7, 2) := by decide +kernel
theorem dL_addPhrase_25 : decode cL_addPhrase 25 = .ok (.iconst 2, 1) := by decide +kernel
theorem dL_addPhrase_26 : decode cL_addPhrase 26 = .ok (.ireturn, 1) := by decide +kernel
theorem dL_addPhrase_27 : decode cL_addPhrase 27 = .ok (.astore 7, 2) := by decide +kernel
theorem dL_addPhrase_29 : decode cL_addPhrase 29 = .ok (.iconst 3, 1) := by decide +kernel
theorem dL_addPhrase_30 : decode cL_addPhrase 30 = .ok (.ireturn, 1) := by decide +kernel
theorem dL_addPhrase_31 : decode cL_addPhrase 31 = .ok (.iconst 0, 1) := by decide +kernel
theorem dL_addPhrase_32 : decode cL_addPhrase 32 = .ok (.ireturn, 1) := by decide +kernel
theorem dL_dropPhrase_0 : decode cL_dropPhrase 0 = .ok (.aload_n 2, 1) := by decide +kernel
theorem dL_dropPhrase_1 : decode cL_dropPhrase 1 = .ok (.iconst 0, 1) := by decide +kernel
theorem dL_dropPhrase_2 : decode cL_dropPhrase 2 = .ok (.aload_n 0, 1) := by decide +kernel
theorem dL_dropPhrase_3 : decode cL_dropPhrase 3 = .ok (.iload_n 1, 1) := by decide +kernel
theorem dL_dropPhrase_4 : decode cL_dropPhrase 4 = .ok (.invokevirtual 74, 3) := by decide +kernel
theorem dL_dropPhrase_7 : decode cL_dropPhrase 7 = .ok (.ifCond .eq 7, 3) := by decide +kernel
theorem dL_dropPhrase_10 : decode cL_dropPhrase 10 = .ok (.lconst 1, 1) := by decide +kernel
theorem dL_dropPhrase_11 : decode cL_dropPhrase 11 = .ok (.goto 4, 3) := by decide +kernel
theorem dL_dropPhrase_14 : decode cL_dropPhrase 14 = .ok (.lconst 0, 1) := by decide +kernel
theorem dL_dropPhrase_15 : decode cL_dropPhrase 15 = .ok (.lastore, 1) := by decide +kernel
theorem dL_dropPhrase_16 : decode cL_dropPhrase 16 = .ok (.goto 6, 3) := by decide +kernel
theorem dL_dropPhrase_19 : decode cL_dropPhrase 19 = .ok (.astore_n 3, 1) := by decide +kernel
theorem dL_dropPhrase_20 : decode cL_dropPhrase 20 = .ok (.iconst 1, 1) := by decide +kernel
theorem dL_dropPhrase_21 : decode cL_dropPhrase 21 = .ok (.ireturn, 1) := by decide +kernel
theorem dL_dropPhrase_22 : decode cL_dropPhrase 22 = .ok (.iconst 0, 1) := by decide +kernel
theorem dL_dropPhrase_23 : decode cL_dropPhrase 23 = .ok (.ireturn, 1) := by decide +kernel
theorem dL_allowTurn_0 : decode cL_allowTurn 0 = .ok (.aload 4, 2) := by decide +kernel
theorem dL_allowTurn_2 : decode cL_allowTurn 2 = .ok (.iconst 0, 1) := by decide +kernel
theorem dL_allowTurn_3 : decode cL_allowTurn 3 = .ok (.aload_n 0, 1) := by decide +kernel
theorem dL_allowTurn_4 : decode cL_allowTurn 4 = .ok (.iload_n 1, 1) := by decide +kernel
theorem dL_allowTurn_5 : decode cL_allowTurn 5 = .ok (.iload_n 2, 1) := by decide +kernel
theorem dL_allowTurn_6 : decode cL_allowTurn 6 = .ok (.iload_n 3, 1) := by decide +kernel
theorem dL_allowTurn_7 : decode cL_allowTurn 7 = .ok (.invokevirtual 78, 3) := by decide +kernel
theorem dL_allowTurn_10 : decode cL_allowTurn 10 = .ok (.ifCond .eq 7, 3) := by decide +kernel
theorem dL_allowTurn_13 : decode cL_allowTurn 13 = .ok (.lconst 1, 1) := by decide +kernel
theorem dL_allowTurn_14 : decode cL_allowTurn 14 = .ok (.goto 4, 3) := by decide +kernel
theorem dL_allowTurn_17 : decode cL_allowTurn 17 = .ok (.lconst 0, 1) := by decide +kernel
theorem dL_allowTurn_18 : decode cL_allowTurn 18 = .ok (.lastore, 1) := by decide +kernel
theorem dL_allowTurn_19 : decode cL_allowTurn 19 = .ok (.goto 11, 3) := by decide +kernel
theorem dL_allowTurn_22 : decode cL_allowTurn 22 = .ok (.astore 5, 2) := by decide +kernel
theorem dL_allowTurn_24 : decode cL_allowTurn 24 = .ok (.iconst 1, 1) := by decide +kernel
theorem dL_allowTurn_25 : decode cL_allowTurn 25 = .ok (.ireturn, 1) := by decide +kernel
theorem dL_allowTurn_26 : decode cL_allowTurn 26 = .ok (.astore 5, 2) := by decide +kernel
theorem dL_allowTurn_28 : decode cL_allowTurn 28 = .ok (.iconst 2, 1) := by decide +kernel
theorem dL_allowTurn_29 : decode cL_allowTurn 29 = .ok (.ireturn, 1) := by decide +kernel
theorem dL_allowTurn_30 : decode cL_allowTurn 30 = .ok (.iconst 0, 1) := by decide +kernel
theorem dL_allowTurn_31 : decode cL_allowTurn 31 = .ok (.ireturn, 1) := by decide +kernel
theorem dL_addRepeat_0 : decode cL_addRepeat 0 = .ok (.aload 4, 2) := by decide +kernel
theorem dL_addRepeat_2 : decode cL_addRepeat 2 = .ok (.iconst 0, 1) := by decide +kernel
theorem dL_addRepeat_3 : decode cL_addRepeat 3 = .ok (.aload_n 0, 1) := by decide +kernel
theorem dL_addRepeat_4 : decode cL_addRepeat 4 = .ok (.iload_n 1, 1) := by decide +kernel
theorem dL_addRepeat_5 : decode cL_addRepeat 5 = .ok (.iload_n 2, 1) := by decide +kernel
theorem dL_addRepeat_6 : decode cL_addRepeat 6 = .ok (.iload_n 3, 1) := by decide +kernel
theorem dL_addRepeat_7 : decode cL_addRepeat 7 = .ok (.invokevirtual 82, 3) := by decide +kernel
theorem dL_addRepeat_10 : decode cL_addRepeat 10 = .ok (.i2l, 1) := by decide +kernel
theorem dL_addRepeat_11 : decode cL_addRepeat 11 = .ok (.lastore, 1) := by decide +kernel
theorem dL_addRepeat_12 : decode cL_addRepeat 12 = .ok (.goto 15, 3) := by decide +kernel
theorem dL_addRepeat_15 : decode cL_addRepeat 15 = .ok (.astore 5, 2) := by decide +kernel
theorem dL_addRepeat_17 : decode cL_addRepeat 17 = .ok (.iconst 1, 1) := by decide +kernel
theorem dL_addRepeat_18 : decode cL_addRepeat 18 = .ok (.ireturn, 1) := by decide +kernel
theorem dL_addRepeat_19 : decode cL_addRepeat 19 = .ok (.astore 5, 2) := by decide +kernel
theorem dL_addRepeat_21 : decode cL_addRepeat 21 = .ok (.iconst 2, 1) := by decide +kernel
theorem dL_addRepeat_22 : decode cL_addRepeat 22 = .ok (.ireturn, 1) := by decide +kernel
theorem dL_addRepeat_23 : decode cL_addRepeat 23 = .ok (.astore 5, 2) := by decide +kernel
theorem dL_addRepeat_25 : decode cL_addRepeat 25 = .ok (.iconst 3, 1) := by decide +kernel
theorem dL_addRepeat_26 : decode cL_addRepeat 26 = .ok (.ireturn, 1) := by decide +kernel
theorem dL_addRepeat_27 : decode cL_addRepeat 27 = .ok (.iconst 0, 1) := by decide +kernel
theorem dL_addRepeat_28 : decode cL_addRepeat 28 = .ok (.ireturn, 1) := by decide +kernel
theorem dL_dropRepeat_0 : decode cL_dropRepeat 0 = .ok (.aload_n 2, 1) := by decide +kernel
theorem dL_dropRepeat_1 : decode cL_dropRepeat 1 = .ok (.iconst 0, 1) := by decide +kernel
theorem dL_dropRepeat_2 : decode cL_dropRepeat 2 = .ok (.aload_n 0, 1) := by decide +kernel
theorem dL_dropRepeat_3 : decode cL_dropRepeat 3 = .ok (.iload_n 1, 1) := by decide +kernel
theorem dL_dropRepeat_4 : decode cL_dropRepeat 4 = .ok (.invokevirtual 85, 3) := by decide +kernel
theorem dL_dropRepeat_7 : decode cL_dropRepeat 7 = .ok (.i2l, 1) := by decide +kernel
theorem dL_dropRepeat_8 : decode cL_dropRepeat 8 = .ok (.lastore, 1) := by decide +kernel
theorem dL_dropRepeat_9 : decode cL_dropRepeat 9 = .ok (.goto 9, 3) := by decide +kernel
theorem dL_dropRepeat_12 : decode cL_dropRepeat 12 = .ok (.astore_n 3, 1) := by decide +kernel
theorem dL_dropRepeat_13 : decode cL_dropRepeat 13 = .ok (.iconst 1, 1) := by decide +kernel
theorem dL_dropRepeat_14 : decode cL_dropRepeat 14 = .ok (.ireturn, 1) := by decide +kernel
theorem dL_dropRepeat_15 : decode cL_dropRepeat 15 = .ok (.astore_n 3, 1) := by decide +kernel
theorem dL_dropRepeat_16 : decode cL_dropRepeat 16 = .ok (.iconst 2, 1) := by decide +kernel
theorem dL_dropRepeat_17 : decode cL_dropRepeat 17 = .ok (.ireturn, 1) := by decide +kernel
theorem dL_dropRepeat_18 : decode cL_dropRepeat 18 = .ok (.iconst 0, 1) := by decide +kernel
theorem dL_dropRepeat_19 : decode cL_dropRepeat 19 = .ok (.ireturn, 1) := by decide +kernel
theorem dL_barAt_0 : decode cL_barAt 0 = .ok (.aload_n 2, 1) := by decide +kernel
theorem dL_barAt_1 : decode cL_barAt 1 = .ok (.iconst 0, 1) := by decide +kernel
theorem dL_barAt_2 : decode cL_barAt 2 = .ok (.aload_n 0, 1) := by decide +kernel
theorem dL_barAt_3 : decode cL_barAt 3 = .ok (.iload_n 1, 1) := by decide +kernel
theorem dL_barAt_4 : decode cL_barAt 4 = .ok (.invokevirtual 88, 3) := by decide +kernel
theorem dL_barAt_7 : decode cL_barAt 7 = .ok (.i2l, 1) := by decide +kernel
theorem dL_barAt_8 : decode cL_barAt 8 = .ok (.lastore, 1) := by decide +kernel
theorem dL_barAt_9 : decode cL_barAt 9 = .ok (.goto 6, 3) := by decide +kernel
theorem dL_barAt_12 : decode cL_barAt 12 = .ok (.astore_n 3, 1) := by decide +kernel
theorem dL_barAt_13 : decode cL_barAt 13 = .ok (.iconst 1, 1) := by decide +kernel
theorem dL_barAt_14 : decode cL_barAt 14 = .ok (.ireturn, 1) := by decide +kernel
theorem dL_barAt_15 : decode cL_barAt 15 = .ok (.iconst 0, 1) := by decide +kernel
theorem dL_barAt_16 : decode cL_barAt 16 = .ok (.ireturn, 1) := by decide +kernel
theorem dL_startOf_0 : decode cL_startOf 0 = .ok (.aload_n 2, 1) := by decide +kernel
theorem dL_startOf_1 : decode cL_startOf 1 = .ok (.iconst 0, 1) := by decide +kernel
theorem dL_startOf_2 : decode cL_startOf 2 = .ok (.aload_n 0, 1) := by decide +kernel
theorem dL_startOf_3 : decode cL_startOf 3 = .ok (.iload_n 1, 1) := by decide +kernel
theorem dL_startOf_4 : decode cL_startOf 4 = .ok (.invokevirtual 91, 3) := by decide +kernel
theorem dL_startOf_7 : decode cL_startOf 7 = .ok (.i2l, 1) := by decide +kernel
theorem dL_startOf_8 : decode cL_startOf 8 = .ok (.lastore, 1) := by decide +kernel
theorem dL_startOf_9 : decode cL_startOf 9 = .ok (.goto 6, 3) := by decide +kernel
theorem dL_startOf_12 : decode cL_startOf 12 = .ok (.astore_n 3, 1) := by decide +kernel
theorem dL_startOf_13 : decode cL_startOf 13 = .ok (.iconst 1, 1) := by decide +kernel
theorem dL_startOf_14 : decode cL_startOf 14 = .ok (.ireturn, 1) := by decide +kernel
theorem dL_startOf_15 : decode cL_startOf 15 = .ok (.iconst 0, 1) := by decide +kernel
theorem dL_startOf_16 : decode cL_startOf 16 = .ok (.ireturn, 1) := by decide +kernel
theorem dL_timeByEvents_0 : decode cL_timeByEvents 0 = .ok (.aload_n 2, 1) := by decide +kernel
theorem dL_timeByEvents_1 : decode cL_timeByEvents 1 = .ok (.iconst 0, 1) := by decide +kernel
theorem dL_timeByEvents_2 : decode cL_timeByEvents 2 = .ok (.aload_n 0, 1) := by decide +kernel
theorem dL_timeByEvents_3 : decode cL_timeByEvents 3 = .ok (.iload_n 1, 1) := by decide +kernel
theorem dL_timeByEvents_4 : decode cL_timeByEvents 4 = .ok (.invokevirtual 94, 3) := by decide +kernel
theorem dL_timeByEvents_7 : decode cL_timeByEvents 7 = .ok (.i2l, 1) := by decide +kernel
theorem dL_timeByEvents_8 : decode cL_timeByEvents 8 = .ok (.lastore, 1) := by decide +kernel
theorem dL_timeByEvents_9 : decode cL_timeByEvents 9 = .ok (.goto 6, 3) := by decide +kernel
theorem dL_timeByEvents_12 : decode cL_timeByEvents 12 = .ok (.astore_n 3, 1) := by decide +kernel
theorem dL_timeByEvents_13 : decode cL_timeByEvents 13 = .ok (.iconst 1, 1) := by decide +kernel
theorem dL_timeByEvents_14 : decode cL_timeByEvents 14 = .ok (.ireturn, 1) := by decide +kernel
theorem dL_timeByEvents_15 : decode cL_timeByEvents 15 = .ok (.iconst 0, 1) := by decide +kernel
theorem dL_timeByEvents_16 : decode cL_timeByEvents 16 = .ok (.ireturn, 1) := by decide +kernel
theorem dL_soundVoice_0 : decode cL_soundVoice 0 = .ok (.aload_n 2, 1) := by decide +kernel
theorem dL_soundVoice_1 : decode cL_soundVoice 1 = .ok (.iconst 0, 1) := by decide +kernel
theorem dL_soundVoice_2 : decode cL_soundVoice 2 = .ok (.aload_n 0, 1) := by decide +kernel
theorem dL_soundVoice_3 : decode cL_soundVoice 3 = .ok (.iload_n 1, 1) := by decide +kernel
theorem dL_soundVoice_4 : decode cL_soundVoice 4 = .ok (.invokevirtual 97, 3) := by decide +kernel
theorem dL_soundVoice_7 : decode cL_soundVoice 7 = .ok (.i2l, 1) := by decide +kernel
theorem dL_soundVoice_8 : decode cL_soundVoice 8 = .ok (.lastore, 1) := by decide +kernel
theorem dL_soundVoice_9 : decode cL_soundVoice 9 = .ok (.goto 6, 3) := by decide +kernel
theorem dL_soundVoice_12 : decode cL_soundVoice 12 = .ok (.astore_n 3, 1) := by decide +kernel
theorem dL_soundVoice_13 : decode cL_soundVoice 13 = .ok (.iconst 1, 1) := by decide +kernel
theorem dL_soundVoice_14 : decode cL_soundVoice 14 = .ok (.ireturn, 1) := by decide +kernel
theorem dL_soundVoice_15 : decode cL_soundVoice 15 = .ok (.iconst 0, 1) := by decide +kernel
theorem dL_soundVoice_16 : decode cL_soundVoice 16 = .ok (.ireturn, 1) := by decide +kernel
theorem dL_soundStart_0 : decode cL_soundStart 0 = .ok (.aload_n 2, 1) := by decide +kernel
theorem dL_soundStart_1 : decode cL_soundStart 1 = .ok (.iconst 0, 1) := by decide +kernel
theorem dL_soundStart_2 : decode cL_soundStart 2 = .ok (.aload_n 0, 1) := by decide +kernel
theorem dL_soundStart_3 : decode cL_soundStart 3 = .ok (.iload_n 1, 1) := by decide +kernel
theorem dL_soundStart_4 : decode cL_soundStart 4 = .ok (.invokevirtual 100, 3) := by decide +kernel
theorem dL_soundStart_7 : decode cL_soundStart 7 = .ok (.i2l, 1) := by decide +kernel
theorem dL_soundStart_8 : decode cL_soundStart 8 = .ok (.lastore, 1) := by decide +kernel
theorem dL_soundStart_9 : decode cL_soundStart 9 = .ok (.goto 6, 3) := by decide +kernel
theorem dL_soundStart_12 : decode cL_soundStart 12 = .ok (.astore_n 3, 1) := by decide +kernel
theorem dL_soundStart_13 : decode cL_soundStart 13 = .ok (.iconst 1, 1) := by decide +kernel
theorem dL_soundStart_14 : decode cL_soundStart 14 = .ok (.ireturn, 1) := by decide +kernel
theorem dL_soundStart_15 : decode cL_soundStart 15 = .ok (.iconst 0, 1) := by decide +kernel
theorem dL_soundStart_16 : decode cL_soundStart 16 = .ok (.ireturn, 1) := by decide +kernel
theorem dL_soundTime_0 : decode cL_soundTime 0 = .ok (.aload_n 2, 1) := by decide +kernel
theorem dL_soundTime_1 : decode cL_soundTime 1 = .ok (.iconst 0, 1) := by decide +kernel
theorem dL_soundTime_2 : decode cL_soundTime 2 = .ok (.aload_n 0, 1) := by decide +kernel
theorem dL_soundTime_3 : decode cL_soundTime 3 = .ok (.iload_n 1, 1) := by decide +kernel
theorem dL_soundTime_4 : decode cL_soundTime 4 = .ok (.invokevirtual 103, 3) := by decide +kernel
theorem dL_soundTime_7 : decode cL_soundTime 7 = .ok (.i2l, 1) := by decide +kernel
theorem dL_soundTime_8 : decode cL_soundTime 8 = .ok (.lastore, 1) := by decide +kernel
theorem dL_soundTime_9 : decode cL_soundTime 9 = .ok (.goto 6, 3) := by decide +kernel
theorem dL_soundTime_12 : decode cL_soundTime 12 = .ok (.astore_n 3, 1) := by decide +kernel
theorem dL_soundTime_13 : decode cL_soundTime 13 = .ok (.iconst 1, 1) := by decide +kernel
theorem dL_soundTime_14 : decode cL_soundTime 14 = .ok (.ireturn, 1) := by decide +kernel
theorem dL_soundTime_15 : decode cL_soundTime 15 = .ok (.iconst 0, 1) := by decide +kernel
theorem dL_soundTime_16 : decode cL_soundTime 16 = .ok (.ireturn, 1) := by decide +kernel
theorem dL_soundPitch_0 : decode cL_soundPitch 0 = .ok (.aload_n 2, 1) := by decide +kernel
theorem dL_soundPitch_1 : decode cL_soundPitch 1 = .ok (.iconst 0, 1) := by decide +kernel
theorem dL_soundPitch_2 : decode cL_soundPitch 2 = .ok (.aload_n 0, 1) := by decide +kernel
theorem dL_soundPitch_3 : decode cL_soundPitch 3 = .ok (.iload_n 1, 1) := by decide +kernel
theorem dL_soundPitch_4 : decode cL_soundPitch 4 = .ok (.invokevirtual 106, 3) := by decide +kernel
theorem dL_soundPitch_7 : decode cL_soundPitch 7 = .ok (.i2l, 1) := by decide +kernel
theorem dL_soundPitch_8 : decode cL_soundPitch 8 = .ok (.lastore, 1) := by decide +kernel
theorem dL_soundPitch_9 : decode cL_soundPitch 9 = .ok (.goto 6, 3) := by decide +kernel
theorem dL_soundPitch_12 : decode cL_soundPitch 12 = .ok (.astore_n 3, 1) := by decide +kernel
theorem dL_soundPitch_13 : decode cL_soundPitch 13 = .ok (.iconst 1, 1) := by decide +kernel
theorem dL_soundPitch_14 : decode cL_soundPitch 14 = .ok (.ireturn, 1) := by decide +kernel
theorem dL_soundPitch_15 : decode cL_soundPitch 15 = .ok (.iconst 0, 1) := by decide +kernel
theorem dL_soundPitch_16 : decode cL_soundPitch 16 = .ok (.ireturn, 1) := by decide +kernel
theorem dL_loudness_0 : decode cL_loudness 0 = .ok (.aload_n 2, 1) := by decide +kernel
theorem dL_loudness_1 : decode cL_loudness 1 = .ok (.iconst 0, 1) := by decide +kernel
theorem dL_loudness_2 : decode cL_loudness 2 = .ok (.aload_n 0, 1) := by decide +kernel
theorem dL_loudness_3 : decode cL_loudness 3 = .ok (.iload_n 1, 1) := by decide +kernel
theorem dL_loudness_4 : decode cL_loudness 4 = .ok (.invokevirtual 109, 3) := by decide +kernel
theorem dL_loudness_7 : decode cL_loudness 7 = .ok (.i2l, 1) := by decide +kernel
theorem dL_loudness_8 : decode cL_loudness 8 = .ok (.lastore, 1) := by decide +kernel
theorem dL_loudness_9 : decode cL_loudness 9 = .ok (.goto 6, 3) := by decide +kernel
theorem dL_loudness_12 : decode cL_loudness 12 = .ok (.astore_n 3, 1) := by decide +kernel
theorem dL_loudness_13 : decode cL_loudness 13 = .ok (.iconst 1, 1) := by decide +kernel
theorem dL_loudness_14 : decode cL_loudness 14 = .ok (.ireturn, 1) := by decide +kernel
theorem dL_loudness_15 : decode cL_loudness 15 = .ok (.iconst 0, 1) := by decide +kernel
theorem dL_loudness_16 : decode cL_loudness 16 = .ok (.ireturn, 1) := by decide +kernel
theorem dL_setPaper_0 : decode cL_setPaper 0 = .ok (.aload_n 0, 1) := by decide +kernel
theorem dL_setPaper_1 : decode cL_setPaper 1 = .ok (.iload_n 1, 1) := by decide +kernel
theorem dL_setPaper_2 : decode cL_setPaper 2 = .ok (.iload_n 2, 1) := by decide +kernel
theorem dL_setPaper_3 : decode cL_setPaper 3 = .ok (.iload_n 3, 1) := by decide +kernel
theorem dL_setPaper_4 : decode cL_setPaper 4 = .ok (.invokevirtual 112, 3) := by decide +kernel
theorem dL_setPaper_7 : decode cL_setPaper 7 = .ok (.goto 7, 3) := by decide +kernel
theorem dL_setPaper_10 : decode cL_setPaper 10 = .ok (.astore 4, 2) := by decide +kernel
theorem dL_setPaper_12 : decode cL_setPaper 12 = .ok (.iconst 1, 1) := by decide +kernel
theorem dL_setPaper_13 : decode cL_setPaper 13 = .ok (.ireturn, 1) := by decide +kernel
theorem dL_setPaper_14 : decode cL_setPaper 14 = .ok (.iconst 0, 1) := by decide +kernel
theorem dL_setPaper_15 : decode cL_setPaper 15 = .ok (.ireturn, 1) := by decide +kernel
theorem dL_items_0 : decode cL_items 0 = .ok (.aload_n 2, 1) := by decide +kernel
theorem dL_items_1 : decode cL_items 1 = .ok (.iconst 0, 1) := by decide +kernel
theorem dL_items_2 : decode cL_items 2 = .ok (.aload_n 0, 1) := by decide +kernel
theorem dL_items_3 : decode cL_items 3 = .ok (.iload_n 1, 1) := by decide +kernel
theorem dL_items_4 : decode cL_items 4 = .ok (.invokevirtual 116, 3) := by decide +kernel
theorem dL_items_7 : decode cL_items 7 = .ok (.i2l, 1) := by decide +kernel
theorem dL_items_8 : decode cL_items 8 = .ok (.lastore, 1) := by decide +kernel
theorem dL_items_9 : decode cL_items 9 = .ok (.goto 9, 3) := by decide +kernel
theorem dL_items_12 : decode cL_items 12 = .ok (.astore_n 3, 1) := by decide +kernel
theorem dL_items_13 : decode cL_items 13 = .ok (.iconst 1, 1) := by decide +kernel
theorem dL_items_14 : decode cL_items 14 = .ok (.ireturn, 1) := by decide +kernel
theorem dL_items_15 : decode cL_items 15 = .ok (.astore_n 3, 1) := by decide +kernel
theorem dL_items_16 : decode cL_items 16 = .ok (.iconst 2, 1) := by decide +kernel
theorem dL_items_17 : decode cL_items 17 = .ok (.ireturn, 1) := by decide +kernel
theorem dL_items_18 : decode cL_items 18 = .ok (.iconst 0, 1) := by decide +kernel
theorem dL_items_19 : decode cL_items 19 = .ok (.ireturn, 1) := by decide +kernel
theorem dL_itemKind_0 : decode cL_itemKind 0 = .ok (.aload_n 3, 1) := by decide +kernel
theorem dL_itemKind_1 : decode cL_itemKind 1 = .ok (.iconst 0, 1) := by decide +kernel
theorem dL_itemKind_2 : decode cL_itemKind 2 = .ok (.aload_n 0, 1) := by decide +kernel
theorem dL_itemKind_3 : decode cL_itemKind 3 = .ok (.iload_n 1, 1) := by decide +kernel
theorem dL_itemKind_4 : decode cL_itemKind 4 = .ok (.iload_n 2, 1) := by decide +kernel
theorem dL_itemKind_5 : decode cL_itemKind 5 = .ok (.invokevirtual 119, 3) := by decide +kernel
theorem dL_itemKind_8 : decode cL_itemKind 8 = .ok (.i2l, 1) := by decide +kernel
theorem dL_itemKind_9 : decode cL_itemKind 9 = .ok (.lastore, 1) := by decide +kernel
theorem dL_itemKind_10 : decode cL_itemKind 10 = .ok (.goto 15, 3) := by decide +kernel
theorem dL_itemKind_13 : decode cL_itemKind 13 = .ok (.astore 4, 2) := by decide +kernel
theorem dL_itemKind_15 : decode cL_itemKind 15 = .ok (.iconst 1, 1) := by decide +kernel
theorem dL_itemKind_16 : decode cL_itemKind 16 = .ok (.ireturn, 1) := by decide +kernel
theorem dL_itemKind_17 : decode cL_itemKind 17 = .ok (.astore 4, 2) := by decide +kernel
theorem dL_itemKind_19 : decode cL_itemKind 19 = .ok (.iconst 2, 1) := by decide +kernel
theorem dL_itemKind_20 : decode cL_itemKind 20 = .ok (.ireturn, 1) := by decide +kernel
theorem dL_itemKind_21 : decode cL_itemKind 21 = .ok (.astore 4, 2) := by decide +kernel
theorem dL_itemKind_23 : decode cL_itemKind 23 = .ok (.iconst 3, 1) := by decide +kernel
theorem dL_itemKind_24 : decode cL_itemKind 24 = .ok (.ireturn, 1) := by decide +kernel
theorem dL_itemKind_25 : decode cL_itemKind 25 = .ok (.iconst 0, 1) := by decide +kernel
theorem dL_itemKind_26 : decode cL_itemKind 26 = .ok (.ireturn, 1) := by decide +kernel
theorem dL_itemBar_0 : decode cL_itemBar 0 = .ok (.aload_n 3, 1) := by decide +kernel
theorem dL_itemBar_1 : decode cL_itemBar 1 = .ok (.iconst 0, 1) := by decide +kernel
theorem dL_itemBar_2 : decode cL_itemBar 2 = .ok (.aload_n 0, 1) := by decide +kernel
theorem dL_itemBar_3 : decode cL_itemBar 3 = .ok (.iload_n 1, 1) := by decide +kernel
theorem dL_itemBar_4 : decode cL_itemBar 4 = .ok (.iload_n 2, 1) := by decide +kernel
theorem dL_itemBar_5 : decode cL_itemBar 5 = .ok (.invokevirtual 122, 3) := by decide +kernel
theorem dL_itemBar_8 : decode cL_itemBar 8 = .ok (.i2l, 1) := by decide +kernel
theorem dL_itemBar_9 : decode cL_itemBar 9 = .ok (.lastore, 1) := by decide +kernel
theorem dL_itemBar_10 : decode cL_itemBar 10 = .ok (.goto 15, 3) := by decide +kernel
theorem dL_itemBar_13 : decode cL_itemBar 13 = .ok (.astore 4, 2) := by decide +kernel
theorem dL_itemBar_15 : decode cL_itemBar 15 = .ok (.iconst 1, 1) := by decide +kernel
theorem dL_itemBar_16 : decode cL_itemBar 16 = .ok (.ireturn, 1) := by decide +kernel
theorem dL_itemBar_17 : decode cL_itemBar 17 = .ok (.astore 4, 2) := by decide +kernel
theorem dL_itemBar_19 : decode cL_itemBar 19 = .ok (.iconst 2, 1) := by decide +kernel
theorem dL_itemBar_20 : decode cL_itemBar 20 = .ok (.ireturn, 1) := by decide +kernel
theorem dL_itemBar_21 : decode cL_itemBar 21 = .ok (.astore 4, 2) := by decide +kernel
theorem dL_itemBar_23 : decode cL_itemBar 23 = .ok (.iconst 3, 1) := by decide +kernel
theorem dL_itemBar_24 : decode cL_itemBar 24 = .ok (.ireturn, 1) := by decide +kernel
theorem dL_itemBar_25 : decode cL_itemBar 25 = .ok (.iconst 0, 1) := by decide +kernel
theorem dL_itemBar_26 : decode cL_itemBar 26 = .ok (.ireturn, 1) := by decide +kernel
theorem dL_itemBars_0 : decode cL_itemBars 0 = .ok (.aload_n 3, 1) := by decide +kernel
theorem dL_itemBars_1 : decode cL_itemBars 1 = .ok (.iconst 0, 1) := by decide +kernel
theorem dL_itemBars_2 : decode cL_itemBars 2 = .ok (.aload_n 0, 1) := by decide +kernel
theorem dL_itemBars_3 : decode cL_itemBars 3 = .ok (.iload_n 1, 1) := by decide +kernel
theorem dL_itemBars_4 : decode cL_itemBars 4 = .ok (.iload_n 2, 1) := by decide +kernel
theorem dL_itemBars_5 : decode cL_itemBars 5 = .ok (.invokevirtual 125, 3) := by decide +kernel
theorem dL_itemBars_8 : decode cL_itemBars 8 = .ok (.i2l, 1) := by decide +kernel
theorem dL_itemBars_9 : decode cL_itemBars 9 = .ok (.lastore, 1) := by decide +kernel
theorem dL_itemBars_10 : decode cL_itemBars 10 = .ok (.goto 15, 3) := by decide +kernel
theorem dL_itemBars_13 : decode cL_itemBars 13 = .ok (.astore 4, 2) := by decide +kernel
theorem dL_itemBars_15 : decode cL_itemBars 15 = .ok (.iconst 1, 1) := by decide +kernel
theorem dL_itemBars_16 : decode cL_itemBars 16 = .ok (.ireturn, 1) := by decide +kernel
theorem dL_itemBars_17 : decode cL_itemBars 17 = .ok (.astore 4, 2) := by decide +kernel
theorem dL_itemBars_19 : decode cL_itemBars 19 = .ok (.iconst 2, 1) := by decide +kernel
theorem dL_itemBars_20 : decode cL_itemBars 20 = .ok (.ireturn, 1) := by decide +kernel
theorem dL_itemBars_21 : decode cL_itemBars 21 = .ok (.astore 4, 2) := by decide +kernel
theorem dL_itemBars_23 : decode cL_itemBars 23 = .ok (.iconst 3, 1) := by decide +kernel
theorem dL_itemBars_24 : decode cL_itemBars 24 = .ok (.ireturn, 1) := by decide +kernel
theorem dL_itemBars_25 : decode cL_itemBars 25 = .ok (.iconst 0, 1) := by decide +kernel
theorem dL_itemBars_26 : decode cL_itemBars 26 = .ok (.ireturn, 1) := by decide +kernel
theorem dL_cue_0 : decode cL_cue 0 = .ok (.aload_n 3, 1) := by decide +kernel
theorem dL_cue_1 : decode cL_cue 1 = .ok (.iconst 0, 1) := by decide +kernel
theorem dL_cue_2 : decode cL_cue 2 = .ok (.aload_n 0, 1) := by decide +kernel
theorem dL_cue_3 : decode cL_cue 3 = .ok (.iload_n 1, 1) := by decide +kernel
theorem dL_cue_4 : decode cL_cue 4 = .ok (.iload_n 2, 1) := by decide +kernel
theorem dL_cue_5 : decode cL_cue 5 = .ok (.invokevirtual 128, 3) := by decide +kernel
theorem dL_cue_8 : decode cL_cue 8 = .ok (.i2l, 1) := by decide +kernel
theorem dL_cue_9 : decode cL_cue 9 = .ok (.lastore, 1) := by decide +kernel
theorem dL_cue_10 : decode cL_cue 10 = .ok (.goto 15, 3) := by decide +kernel
theorem dL_cue_13 : decode cL_cue 13 = .ok (.astore 4, 2) := by decide +kernel
theorem dL_cue_15 : decode cL_cue 15 = .ok (.iconst 1, 1) := by decide +kernel
theorem dL_cue_16 : decode cL_cue 16 = .ok (.ireturn, 1) := by decide +kernel
theorem dL_cue_17 : decode cL_cue 17 = .ok (.astore 4, 2) := by decide +kernel
theorem dL_cue_19 : decode cL_cue 19 = .ok (.iconst 2, 1) := by decide +kernel
theorem dL_cue_20 : decode cL_cue 20 = .ok (.ireturn, 1) := by decide +kernel
theorem dL_cue_21 : decode cL_cue 21 = .ok (.astore 4, 2) := by decide +kernel
theorem dL_cue_23 : decode cL_cue 23 = .ok (.iconst 3, 1) := by decide +kernel
theorem dL_cue_24 : decode cL_cue 24 = .ok (.ireturn, 1) := by decide +kernel
theorem dL_cue_25 : decode cL_cue 25 = .ok (.iconst 0, 1) := by decide +kernel
theorem dL_cue_26 : decode cL_cue 26 = .ok (.ireturn, 1) := by decide +kernel
theorem dL_itemWidth_0 : decode cL_itemWidth 0 = .ok (.aload_n 3, 1) := by decide +kernel
theorem dL_itemWidth_1 : decode cL_itemWidth 1 = .ok (.iconst 0, 1) := by decide +kernel
theorem dL_itemWidth_2 : decode cL_itemWidth 2 = .ok (.aload_n 0, 1) := by decide +kernel
theorem dL_itemWidth_3 : decode cL_itemWidth 3 = .ok (.iload_n 1, 1) := by decide +kernel
theorem dL_itemWidth_4 : decode cL_itemWidth 4 = .ok (.iload_n 2, 1) := by decide +kernel
theorem dL_itemWidth_5 : decode cL_itemWidth 5 = .ok (.invokevirtual 131, 3) := by decide +kernel
theorem dL_itemWidth_8 : decode cL_itemWidth 8 = .ok (.i2l, 1) := by decide +kernel
theorem dL_itemWidth_9 : decode cL_itemWidth 9 = .ok (.lastore, 1) := by decide +kernel
theorem dL_itemWidth_10 : decode cL_itemWidth 10 = .ok (.goto 15, 3) := by decide +kernel
theorem dL_itemWidth_13 : decode cL_itemWidth 13 = .ok (.astore 4, 2) := by decide +kernel
theorem dL_itemWidth_15 : decode cL_itemWidth 15 = .ok (.iconst 1, 1) := by decide +kernel
theorem dL_itemWidth_16 : decode cL_itemWidth 16 = .ok (.ireturn, 1) := by decide +kernel
theorem dL_itemWidth_17 : decode cL_itemWidth 17 = .ok (.astore 4, 2) := by decide +kernel
theorem dL_itemWidth_19 : decode cL_itemWidth 19 = .ok (.iconst 2, 1) := by decide +kernel
theorem dL_itemWidth_20 : decode cL_itemWidth 20 = .ok (.ireturn, 1) := by decide +kernel
theorem dL_itemWidth_21 : decode cL_itemWidth 21 = .ok (.astore 4, 2) := by decide +kernel
theorem dL_itemWidth_23 : decode cL_itemWidth 23 = .ok (.iconst 3, 1) := by decide +kernel
theorem dL_itemWidth_24 : decode cL_itemWidth 24 = .ok (.ireturn, 1) := by decide +kernel
theorem dL_itemWidth_25 : decode cL_itemWidth 25 = .ok (.iconst 0, 1) := by decide +kernel
theorem dL_itemWidth_26 : decode cL_itemWidth 26 = .ok (.ireturn, 1) := by decide +kernel
theorem dL_lines_0 : decode cL_lines 0 = .ok (.aload_n 2, 1) := by decide +kernel
theorem dL_lines_1 : decode cL_lines 1 = .ok (.iconst 0, 1) := by decide +kernel
theorem dL_lines_2 : decode cL_lines 2 = .ok (.aload_n 0, 1) := by decide +kernel
theorem dL_lines_3 : decode cL_lines 3 = .ok (.iload_n 1, 1) := by decide +kernel
theorem dL_lines_4 : decode cL_lines 4 = .ok (.invokevirtual 134, 3) := by decide +kernel
theorem dL_lines_7 : decode cL_lines 7 = .ok (.i2l, 1) := by decide +kernel
theorem dL_lines_8 : decode cL_lines 8 = .ok (.lastore, 1) := by decide +kernel
theorem dL_lines_9 : decode cL_lines 9 = .ok (.goto 9, 3) := by decide +kernel
theorem dL_lines_12 : decode cL_lines 12 = .ok (.astore_n 3, 1) := by decide +kernel
theorem dL_lines_13 : decode cL_lines 13 = .ok (.iconst 1, 1) := by decide +kernel
theorem dL_lines_14 : decode cL_lines 14 = .ok (.ireturn, 1) := by decide +kernel
theorem dL_lines_15 : decode cL_lines 15 = .ok (.astore_n 3, 1) := by decide +kernel
theorem dL_lines_16 : decode cL_lines 16 = .ok (.iconst 2, 1) := by decide +kernel
theorem dL_lines_17 : decode cL_lines 17 = .ok (.ireturn, 1) := by decide +kernel
theorem dL_lines_18 : decode cL_lines 18 = .ok (.iconst 0, 1) := by decide +kernel
theorem dL_lines_19 : decode cL_lines 19 = .ok (.ireturn, 1) := by decide +kernel
theorem dL_firstItem_0 : decode cL_firstItem 0 = .ok (.aload_n 3, 1) := by decide +kernel
theorem dL_firstItem_1 : decode cL_firstItem 1 = .ok (.iconst 0, 1) := by decide +kernel
theorem dL_firstItem_2 : decode cL_firstItem 2 = .ok (.aload_n 0, 1) := by decide +kernel
theorem dL_firstItem_3 : decode cL_firstItem 3 = .ok (.iload_n 1, 1) := by decide +kernel
theorem dL_firstItem_4 : decode cL_firstItem 4 = .ok (.iload_n 2, 1) := by decide +kernel
theorem dL_firstItem_5 : decode cL_firstItem 5 = .ok (.invokevirtual 137, 3) := by decide +kernel
theorem dL_firstItem_8 : decode cL_firstItem 8 = .ok (.i2l, 1) := by decide +kernel
theorem dL_firstItem_9 : decode cL_firstItem 9 = .ok (.lastore, 1) := by decide +kernel
theorem dL_firstItem_10 : decode cL_firstItem 10 = .ok (.goto 15, 3) := by decide +kernel
theorem dL_firstItem_13 : decode cL_firstItem 13 = .ok (.astore 4, 2) := by decide +kernel
theorem dL_firstItem_15 : decode cL_firstItem 15 = .ok (.iconst 1, 1) := by decide +kernel
theorem dL_firstItem_16 : decode cL_firstItem 16 = .ok (.ireturn, 1) := by decide +kernel
theorem dL_firstItem_17 : decode cL_firstItem 17 = .ok (.astore 4, 2) := by decide +kernel
theorem dL_firstItem_19 : decode cL_firstItem 19 = .ok (.iconst 2, 1) := by decide +kernel
theorem dL_firstItem_20 : decode cL_firstItem 20 = .ok (.ireturn, 1) := by decide +kernel
theorem dL_firstItem_21 : decode cL_firstItem 21 = .ok (.astore 4, 2) := by decide +kernel
theorem dL_firstItem_23 : decode cL_firstItem 23 = .ok (.iconst 3, 1) := by decide +kernel
theorem dL_firstItem_24 : decode cL_firstItem 24 = .ok (.ireturn, 1) := by decide +kernel
theorem dL_firstItem_25 : decode cL_firstItem 25 = .ok (.iconst 0, 1) := by decide +kernel
theorem dL_firstItem_26 : decode cL_firstItem 26 = .ok (.ireturn, 1) := by decide +kernel
theorem dL_badness_0 : decode cL_badness 0 = .ok (.aload_n 2, 1) := by decide +kernel
theorem dL_badness_1 : decode cL_badness 1 = .ok (.iconst 0, 1) := by decide +kernel
theorem dL_badness_2 : decode cL_badness 2 = .ok (.aload_n 0, 1) := by decide +kernel
theorem dL_badness_3 : decode cL_badness 3 = .ok (.iload_n 1, 1) := by decide +kernel
theorem dL_badness_4 : decode cL_badness 4 = .ok (.invokevirtual 140, 3) := by decide +kernel
theorem dL_badness_7 : decode cL_badness 7 = .ok (.i2l, 1) := by decide +kernel
theorem dL_badness_8 : decode cL_badness 8 = .ok (.lastore, 1) := by decide +kernel
theorem dL_badness_9 : decode cL_badness 9 = .ok (.goto 9, 3) := by decide +kernel
theorem dL_badness_12 : decode cL_badness 12 = .ok (.astore_n 3, 1) := by decide +kernel
theorem dL_badness_13 : decode cL_badness 13 = .ok (.iconst 1, 1) := by decide +kernel
theorem dL_badness_14 : decode cL_badness 14 = .ok (.ireturn, 1) := by decide +kernel
theorem dL_badness_15 : decode cL_badness 15 = .ok (.astore_n 3, 1) := by decide +kernel
theorem dL_badness_16 : decode cL_badness 16 = .ok (.iconst 2, 1) := by decide +kernel
theorem dL_badness_17 : decode cL_badness 17 = .ok (.ireturn, 1) := by decide +kernel
theorem dL_badness_18 : decode cL_badness 18 = .ok (.iconst 0, 1) := by decide +kernel
theorem dL_badness_19 : decode cL_badness 19 = .ok (.ireturn, 1) := by decide +kernel
theorem dL_pages_0 : decode cL_pages 0 = .ok (.aload_n 2, 1) := by decide +kernel
theorem dL_pages_1 : decode cL_pages 1 = .ok (.iconst 0, 1) := by decide +kernel
theorem dL_pages_2 : decode cL_pages 2 = .ok (.aload_n 0, 1) := by decide +kernel
theorem dL_pages_3 : decode cL_pages 3 = .ok (.iload_n 1, 1) := by decide +kernel
theorem dL_pages_4 : decode cL_pages 4 = .ok (.invokevirtual 143, 3) := by decide +kernel
theorem dL_pages_7 : decode cL_pages 7 = .ok (.i2l, 1) := by decide +kernel
theorem dL_pages_8 : decode cL_pages 8 = .ok (.lastore, 1) := by decide +kernel
theorem dL_pages_9 : decode cL_pages 9 = .ok (.goto 9, 3) := by decide +kernel
theorem dL_pages_12 : decode cL_pages 12 = .ok (.astore_n 3, 1) := by decide +kernel
theorem dL_pages_13 : decode cL_pages 13 = .ok (.iconst 1, 1) := by decide +kernel
theorem dL_pages_14 : decode cL_pages 14 = .ok (.ireturn, 1) := by decide +kernel
theorem dL_pages_15 : decode cL_pages 15 = .ok (.astore_n 3, 1) := by decide +kernel
theorem dL_pages_16 : decode cL_pages 16 = .ok (.iconst 2, 1) := by decide +kernel
theorem dL_pages_17 : decode cL_pages 17 = .ok (.ireturn, 1) := by decide +kernel
theorem dL_pages_18 : decode cL_pages 18 = .ok (.iconst 0, 1) := by decide +kernel
theorem dL_pages_19 : decode cL_pages 19 = .ok (.ireturn, 1) := by decide +kernel
theorem dL_pageLines_0 : decode cL_pageLines 0 = .ok (.aload_n 3, 1) := by decide +kernel
theorem dL_pageLines_1 : decode cL_pageLines 1 = .ok (.iconst 0, 1) := by decide +kernel
theorem dL_pageLines_2 : decode cL_pageLines 2 = .ok (.aload_n 0, 1) := by decide +kernel
theorem dL_pageLines_3 : decode cL_pageLines 3 = .ok (.iload_n 1, 1) := by decide +kernel
theorem dL_pageLines_4 : decode cL_pageLines 4 = .ok (.iload_n 2, 1) := by decide +kernel
theorem dL_pageLines_5 : decode cL_pageLines 5 = .ok (.invokevirtual 146, 3) := by decide +kernel
theorem dL_pageLines_8 : decode cL_pageLines 8 = .ok (.i2l, 1) := by decide +kernel
theorem dL_pageLines_9 : decode cL_pageLines 9 = .ok (.lastore, 1) := by decide +kernel
theorem dL_pageLines_10 : decode cL_pageLines 10 = .ok (.goto 15, 3) := by decide +kernel
theorem dL_pageLines_13 : decode cL_pageLines 13 = .ok (.astore 4, 2) := by decide +kernel
theorem dL_pageLines_15 : decode cL_pageLines 15 = .ok (.iconst 1, 1) := by decide +kernel
theorem dL_pageLines_16 : decode cL_pageLines 16 = .ok (.ireturn, 1) := by decide +kernel
theorem dL_pageLines_17 : decode cL_pageLines 17 = .ok (.astore 4, 2) := by decide +kernel
theorem dL_pageLines_19 : decode cL_pageLines 19 = .ok (.iconst 2, 1) := by decide +kernel
theorem dL_pageLines_20 : decode cL_pageLines 20 = .ok (.ireturn, 1) := by decide +kernel
theorem dL_pageLines_21 : decode cL_pageLines 21 = .ok (.astore 4, 2) := by decide +kernel
theorem dL_pageLines_23 : decode cL_pageLines 23 = .ok (.iconst 3, 1) := by decide +kernel
theorem dL_pageLines_24 : decode cL_pageLines 24 = .ok (.ireturn, 1) := by decide +kernel
theorem dL_pageLines_25 : decode cL_pageLines 25 = .ok (.iconst 0, 1) := by decide +kernel
theorem dL_pageLines_26 : decode cL_pageLines 26 = .ok (.ireturn, 1) := by decide +kernel
theorem dL_pageOf_0 : decode cL_pageOf 0 = .ok (.aload_n 3, 1) := by decide +kernel
theorem dL_pageOf_1 : decode cL_pageOf 1 = .ok (.iconst 0, 1) := by decide +kernel
theorem dL_pageOf_2 : decode cL_pageOf 2 = .ok (.aload_n 0, 1) := by decide +kernel
theorem dL_pageOf_3 : decode cL_pageOf 3 = .ok (.iload_n 1, 1) := by decide +kernel
theorem dL_pageOf_4 : decode cL_pageOf 4 = .ok (.iload_n 2, 1) := by decide +kernel
theorem dL_pageOf_5 : decode cL_pageOf 5 = .ok (.invokevirtual 149, 3) := by decide +kernel
theorem dL_pageOf_8 : decode cL_pageOf 8 = .ok (.i2l, 1) := by decide +kernel
theorem dL_pageOf_9 : decode cL_pageOf 9 = .ok (.lastore, 1) := by decide +kernel
theorem dL_pageOf_10 : decode cL_pageOf 10 = .ok (.goto 15, 3) := by decide +kernel
theorem dL_pageOf_13 : decode cL_pageOf 13 = .ok (.astore 4, 2) := by decide +kernel
theorem dL_pageOf_15 : decode cL_pageOf 15 = .ok (.iconst 1, 1) := by decide +kernel
theorem dL_pageOf_16 : decode cL_pageOf 16 = .ok (.ireturn, 1) := by decide +kernel
theorem dL_pageOf_17 : decode cL_pageOf 17 = .ok (.astore 4, 2) := by decide +kernel
theorem dL_pageOf_19 : decode cL_pageOf 19 = .ok (.iconst 2, 1) := by decide +kernel
theorem dL_pageOf_20 : decode cL_pageOf 20 = .ok (.ireturn, 1) := by decide +kernel
theorem dL_pageOf_21 : decode cL_pageOf 21 = .ok (.astore 4, 2) := by decide +kernel
theorem dL_pageOf_23 : decode cL_pageOf 23 = .ok (.iconst 3, 1) := by decide +kernel
theorem dL_pageOf_24 : decode cL_pageOf 24 = .ok (.ireturn, 1) := by decide +kernel
theorem dL_pageOf_25 : decode cL_pageOf 25 = .ok (.iconst 0, 1) := by decide +kernel
theorem dL_pageOf_26 : decode cL_pageOf 26 = .ok (.ireturn, 1) := by decide +kernel
theorem dL_pageTurns_0 : decode cL_pageTurns 0 = .ok (.aload_n 2, 1) := by decide +kernel
theorem dL_pageTurns_1 : decode cL_pageTurns 1 = .ok (.iconst 0, 1) := by decide +kernel
theorem dL_pageTurns_2 : decode cL_pageTurns 2 = .ok (.aload_n 0, 1) := by decide +kernel
theorem dL_pageTurns_3 : decode cL_pageTurns 3 = .ok (.iload_n 1, 1) := by decide +kernel
theorem dL_pageTurns_4 : decode cL_pageTurns 4 = .ok (.invokevirtual 152, 3) := by decide +kernel
theorem dL_pageTurns_7 : decode cL_pageTurns 7 = .ok (.i2l, 1) := by decide +kernel
theorem dL_pageTurns_8 : decode cL_pageTurns 8 = .ok (.lastore, 1) := by decide +kernel
theorem dL_pageTurns_9 : decode cL_pageTurns 9 = .ok (.goto 9, 3) := by decide +kernel
theorem dL_pageTurns_12 : decode cL_pageTurns 12 = .ok (.astore_n 3, 1) := by decide +kernel
theorem dL_pageTurns_13 : decode cL_pageTurns 13 = .ok (.iconst 1, 1) := by decide +kernel
theorem dL_pageTurns_14 : decode cL_pageTurns 14 = .ok (.ireturn, 1) := by decide +kernel
theorem dL_pageTurns_15 : decode cL_pageTurns 15 = .ok (.astore_n 3, 1) := by decide +kernel
theorem dL_pageTurns_16 : decode cL_pageTurns 16 = .ok (.iconst 2, 1) := by decide +kernel
theorem dL_pageTurns_17 : decode cL_pageTurns 17 = .ok (.ireturn, 1) := by decide +kernel
theorem dL_pageTurns_18 : decode cL_pageTurns 18 = .ok (.iconst 0, 1) := by decide +kernel
theorem dL_pageTurns_19 : decode cL_pageTurns 19 = .ok (.ireturn, 1) := by decide +kernel
theorem dL_turnBar_0 : decode cL_turnBar 0 = .ok (.aload_n 3, 1) := by decide +kernel
theorem dL_turnBar_1 : decode cL_turnBar 1 = .ok (.iconst 0, 1) := by decide +kernel
theorem dL_turnBar_2 : decode cL_turnBar 2 = .ok (.aload_n 0, 1) := by decide +kernel
theorem dL_turnBar_3 : decode cL_turnBar 3 = .ok (.iload_n 1, 1) := by decide +kernel
theorem dL_turnBar_4 : decode cL_turnBar 4 = .ok (.iload_n 2, 1) := by decide +kernel
theorem dL_turnBar_5 : decode cL_turnBar 5 = .ok (.invokevirtual 155, 3) := by decide +kernel
theorem dL_turnBar_8 : decode cL_turnBar 8 = .ok (.i2l, 1) := by decide +kernel
theorem dL_turnBar_9 : decode cL_turnBar 9 = .ok (.lastore, 1) := by decide +kernel
theorem dL_turnBar_10 : decode cL_turnBar 10 = .ok (.goto 15, 3) := by decide +kernel
theorem dL_turnBar_13 : decode cL_turnBar 13 = .ok (.astore 4, 2) := by decide +kernel
theorem dL_turnBar_15 : decode cL_turnBar 15 = .ok (.iconst 1, 1) := by decide +kernel
theorem dL_turnBar_16 : decode cL_turnBar 16 = .ok (.ireturn, 1) := by decide +kernel
theorem dL_turnBar_17 : decode cL_turnBar 17 = .ok (.astore 4, 2) := by decide +kernel
theorem dL_turnBar_19 : decode cL_turnBar 19 = .ok (.iconst 2, 1) := by decide +kernel
theorem dL_turnBar_20 : decode cL_turnBar 20 = .ok (.ireturn, 1) := by decide +kernel
theorem dL_turnBar_21 : decode cL_turnBar 21 = .ok (.astore 4, 2) := by decide +kernel
theorem dL_turnBar_23 : decode cL_turnBar 23 = .ok (.iconst 3, 1) := by decide +kernel
theorem dL_turnBar_24 : decode cL_turnBar 24 = .ok (.ireturn, 1) := by decide +kernel
theorem dL_turnBar_25 : decode cL_turnBar 25 = .ok (.iconst 0, 1) := by decide +kernel
theorem dL_turnBar_26 : decode cL_turnBar 26 = .ok (.ireturn, 1) := by decide +kernel
theorem dL_turnTime_0 : decode cL_turnTime 0 = .ok (.aload_n 3, 1) := by decide +kernel
theorem dL_turnTime_1 : decode cL_turnTime 1 = .ok (.iconst 0, 1) := by decide +kernel
theorem dL_turnTime_2 : decode cL_turnTime 2 = .ok (.aload_n 0, 1) := by decide +kernel
theorem dL_turnTime_3 : decode cL_turnTime 3 = .ok (.iload_n 1, 1) := by decide +kernel
theorem dL_turnTime_4 : decode cL_turnTime 4 = .ok (.iload_n 2, 1) := by decide +kernel
theorem dL_turnTime_5 : decode cL_turnTime 5 = .ok (.invokevirtual 158, 3) := by decide +kernel
theorem dL_turnTime_8 : decode cL_turnTime 8 = .ok (.i2l, 1) := by decide +kernel
theorem dL_turnTime_9 : decode cL_turnTime 9 = .ok (.lastore, 1) := by decide +kernel
theorem dL_turnTime_10 : decode cL_turnTime 10 = .ok (.goto 15, 3) := by decide +kernel
theorem dL_turnTime_13 : decode cL_turnTime 13 = .ok (.astore 4, 2) := by decide +kernel
theorem dL_turnTime_15 : decode cL_turnTime 15 = .ok (.iconst 1, 1) := by decide +kernel
theorem dL_turnTime_16 : decode cL_turnTime 16 = .ok (.ireturn, 1) := by decide +kernel
theorem dL_turnTime_17 : decode cL_turnTime 17 = .ok (.astore 4, 2) := by decide +kernel
theorem dL_turnTime_19 : decode cL_turnTime 19 = .ok (.iconst 2, 1) := by decide +kernel
theorem dL_turnTime_20 : decode cL_turnTime 20 = .ok (.ireturn, 1) := by decide +kernel
theorem dL_turnTime_21 : decode cL_turnTime 21 = .ok (.astore 4, 2) := by decide +kernel
theorem dL_turnTime_23 : decode cL_turnTime 23 = .ok (.iconst 3, 1) := by decide +kernel
theorem dL_turnTime_24 : decode cL_turnTime 24 = .ok (.ireturn, 1) := by decide +kernel
theorem dL_turnTime_25 : decode cL_turnTime 25 = .ok (.iconst 0, 1) := by decide +kernel
theorem dL_turnTime_26 : decode cL_turnTime 26 = .ok (.ireturn, 1) := by decide +kernel
theorem dL_turnRest_0 : decode cL_turnRest 0 = .ok (.aload_n 3, 1) := by decide +kernel
theorem dL_turnRest_1 : decode cL_turnRest 1 = .ok (.iconst 0, 1) := by decide +kernel
theorem dL_turnRest_2 : decode cL_turnRest 2 = .ok (.aload_n 0, 1) := by decide +kernel
theorem dL_turnRest_3 : decode cL_turnRest 3 = .ok (.iload_n 1, 1) := by decide +kernel
theorem dL_turnRest_4 : decode cL_turnRest 4 = .ok (.iload_n 2, 1) := by decide +kernel
theorem dL_turnRest_5 : decode cL_turnRest 5 = .ok (.invokevirtual 161, 3) := by decide +kernel
theorem dL_turnRest_8 : decode cL_turnRest 8 = .ok (.i2l, 1) := by decide +kernel
theorem dL_turnRest_9 : decode cL_turnRest 9 = .ok (.lastore, 1) := by decide +kernel
theorem dL_turnRest_10 : decode cL_turnRest 10 = .ok (.goto 15, 3) := by decide +kernel
theorem dL_turnRest_13 : decode cL_turnRest 13 = .ok (.astore 4, 2) := by decide +kernel
theorem dL_turnRest_15 : decode cL_turnRest 15 = .ok (.iconst 1, 1) := by decide +kernel
theorem dL_turnRest_16 : decode cL_turnRest 16 = .ok (.ireturn, 1) := by decide +kernel
theorem dL_turnRest_17 : decode cL_turnRest 17 = .ok (.astore 4, 2) := by decide +kernel
theorem dL_turnRest_19 : decode cL_turnRest 19 = .ok (.iconst 2, 1) := by decide +kernel
theorem dL_turnRest_20 : decode cL_turnRest 20 = .ok (.ireturn, 1) := by decide +kernel
theorem dL_turnRest_21 : decode cL_turnRest 21 = .ok (.astore 4, 2) := by decide +kernel
theorem dL_turnRest_23 : decode cL_turnRest 23 = .ok (.iconst 3, 1) := by decide +kernel
theorem dL_turnRest_24 : decode cL_turnRest 24 = .ok (.ireturn, 1) := by decide +kernel
theorem dL_turnRest_25 : decode cL_turnRest 25 = .ok (.iconst 0, 1) := by decide +kernel
theorem dL_turnRest_26 : decode cL_turnRest 26 = .ok (.ireturn, 1) := by decide +kernel
theorem dL_badTurns_0 : decode cL_badTurns 0 = .ok (.aload_n 2, 1) := by decide +kernel
theorem dL_badTurns_1 : decode cL_badTurns 1 = .ok (.iconst 0, 1) := by decide +kernel
theorem dL_badTurns_2 : decode cL_badTurns 2 = .ok (.aload_n 0, 1) := by decide +kernel
theorem dL_badTurns_3 : decode cL_badTurns 3 = .ok (.iload_n 1, 1) := by decide +kernel
theorem dL_badTurns_4 : decode cL_badTurns 4 = .ok (.invokevirtual 164, 3) := by decide +kernel
theorem dL_badTurns_7 : decode cL_badTurns 7 = .ok (.i2l, 1) := by decide +kernel
theorem dL_badTurns_8 : decode cL_badTurns 8 = .ok (.lastore, 1) := by decide +kernel
theorem dL_badTurns_9 : decode cL_badTurns 9 = .ok (.goto 9, 3) := by decide +kernel
theorem dL_badTurns_12 : decode cL_badTurns 12 = .ok (.astore_n 3, 1) := by decide +kernel
theorem dL_badTurns_13 : decode cL_badTurns 13 = .ok (.iconst 1, 1) := by decide +kernel
theorem dL_badTurns_14 : decode cL_badTurns 14 = .ok (.ireturn, 1) := by decide +kernel
theorem dL_badTurns_15 : decode cL_badTurns 15 = .ok (.astore_n 3, 1) := by decide +kernel
theorem dL_badTurns_16 : decode cL_badTurns 16 = .ok (.iconst 2, 1) := by decide +kernel
theorem dL_badTurns_17 : decode cL_badTurns 17 = .ok (.ireturn, 1) := by decide +kernel
theorem dL_badTurns_18 : decode cL_badTurns 18 = .ok (.iconst 0, 1) := by decide +kernel
theorem dL_badTurns_19 : decode cL_badTurns 19 = .ok (.ireturn, 1) := by decide +kernel
theorem dL_sheets_0 : decode cL_sheets 0 = .ok (.aload_n 2, 1) := by decide +kernel
theorem dL_sheets_1 : decode cL_sheets 1 = .ok (.iconst 0, 1) := by decide +kernel
theorem dL_sheets_2 : decode cL_sheets 2 = .ok (.aload_n 0, 1) := by decide +kernel
theorem dL_sheets_3 : decode cL_sheets 3 = .ok (.iload_n 1, 1) := by decide +kernel
theorem dL_sheets_4 : decode cL_sheets 4 = .ok (.invokevirtual 167, 3) := by decide +kernel
theorem dL_sheets_7 : decode cL_sheets 7 = .ok (.i2l, 1) := by decide +kernel
theorem dL_sheets_8 : decode cL_sheets 8 = .ok (.lastore, 1) := by decide +kernel
theorem dL_sheets_9 : decode cL_sheets 9 = .ok (.goto 9, 3) := by decide +kernel
theorem dL_sheets_12 : decode cL_sheets 12 = .ok (.astore_n 3, 1) := by decide +kernel
theorem dL_sheets_13 : decode cL_sheets 13 = .ok (.iconst 1, 1) := by decide +kernel
theorem dL_sheets_14 : decode cL_sheets 14 = .ok (.ireturn, 1) := by decide +kernel
theorem dL_sheets_15 : decode cL_sheets 15 = .ok (.astore_n 3, 1) := by decide +kernel
theorem dL_sheets_16 : decode cL_sheets 16 = .ok (.iconst 2, 1) := by decide +kernel
theorem dL_sheets_17 : decode cL_sheets 17 = .ok (.ireturn, 1) := by decide +kernel
theorem dL_sheets_18 : decode cL_sheets 18 = .ok (.iconst 0, 1) := by decide +kernel
theorem dL_sheets_19 : decode cL_sheets 19 = .ok (.ireturn, 1) := by decide +kernel
theorem dL_sheetPage_0 : decode cL_sheetPage 0 = .ok (.aload 5, 2) := by decide +kernel
theorem dL_sheetPage_2 : decode cL_sheetPage 2 = .ok (.iconst 0, 1) := by decide +kernel
theorem dL_sheetPage_3 : decode cL_sheetPage 3 = .ok (.aload_n 0, 1) := by decide +kernel
theorem dL_sheetPage_4 : decode cL_sheetPage 4 = .ok (.iload_n 1, 1) := by decide +kernel
theorem dL_sheetPage_5 : decode cL_sheetPage 5 = .ok (.iload_n 2, 1) := by decide +kernel
theorem dL_sheetPage_6 : decode cL_sheetPage 6 = .ok (.iload_n 3, 1) := by decide +kernel
theorem dL_sheetPage_7 : decode cL_sheetPage 7 = .ok (.iload 4, 2) := by decide +kernel
theorem dL_sheetPage_9 : decode cL_sheetPage 9 = .ok (.invokevirtual 170, 3) := by decide +kernel
theorem dL_sheetPage_12 : decode cL_sheetPage 12 = .ok (.i2l, 1) := by decide +kernel
theorem dL_sheetPage_13 : decode cL_sheetPage 13 = .ok (.lastore, 1) := by decide +kernel
theorem dL_sheetPage_14 : decode cL_sheetPage 14 = .ok (.goto 15, 3) := by decide +kernel
theorem dL_sheetPage_17 : decode cL_sheetPage 17 = .ok (.astore 6, 2) := by decide +kernel
theorem dL_sheetPage_19 : decode cL_sheetPage 19 = .ok (.iconst 1, 1) := by decide +kernel
theorem dL_sheetPage_20 : decode cL_sheetPage 20 = .ok (.ireturn, 1) := by decide +kernel
theorem dL_sheetPage_21 : decode cL_sheetPage 21 = .ok (.astore 6, 2) := by decide +kernel
theorem dL_sheetPage_23 : decode cL_sheetPage 23 = .ok (.iconst 2, 1) := by decide +kernel
theorem dL_sheetPage_24 : decode cL_sheetPage 24 = .ok (.ireturn, 1) := by decide +kernel
theorem dL_sheetPage_25 : decode cL_sheetPage 25 = .ok (.astore 6, 2) := by decide +kernel
theorem dL_sheetPage_27 : decode cL_sheetPage 27 = .ok (.iconst 3, 1) := by decide +kernel
theorem dL_sheetPage_28 : decode cL_sheetPage 28 = .ok (.ireturn, 1) := by decide +kernel
theorem dL_sheetPage_29 : decode cL_sheetPage 29 = .ok (.iconst 0, 1) := by decide +kernel
theorem dL_sheetPage_30 : decode cL_sheetPage 30 = .ok (.ireturn, 1) := by decide +kernel
theorem dL_law_0 : decode cL_law 0 = .ok (.new 8, 3) := by decide +kernel
theorem dL_law_3 : decode cL_law 3 = .ok (.dup, 1) := by decide +kernel
theorem dL_law_4 : decode cL_law 4 = .ok (.invokespecial 174, 3) := by decide +kernel
theorem dL_law_7 : decode cL_law 7 = .ok (.astore_n 1, 1) := by decide +kernel
theorem dL_law_8 : decode cL_law 8 = .ok (.new 175, 3) := by decide +kernel
theorem dL_law_11 : decode cL_law 11 = .ok (.dup, 1) := by decide +kernel
theorem dL_law_12 : decode cL_law 12 = .ok (.invokespecial 177, 3) := by decide +kernel
theorem dL_law_15 : decode cL_law 15 = .ok (.astore_n 2, 1) := by decide +kernel
theorem dL_law_16 : decode cL_law 16 = .ok (.iconst 1, 1) := by decide +kernel
theorem dL_law_17 : decode cL_law 17 = .ok (.newarray .long, 2) := by decide +kernel
theorem dL_law_19 : decode cL_law 19 = .ok (.astore_n 3, 1) := by decide +kernel
theorem dL_law_20 : decode cL_law 20 = .ok (.iconst 0, 1) := by decide +kernel
theorem dL_law_21 : decode cL_law 21 = .ok (.istore 4, 2) := by decide +kernel
theorem dL_law_23 : decode cL_law 23 = .ok (.iload 4, 2) := by decide +kernel
theorem dL_law_25 : decode cL_law 25 = .ok (.aload_n 0, 1) := by decide +kernel
theorem dL_law_26 : decode cL_law 26 = .ok (.arraylength, 1) := by decide +kernel
theorem dL_law_27 : decode cL_law 27 = .ok (.bipush 7, 2) := by decide +kernel
theorem dL_law_29 : decode cL_law 29 = .ok (.isub, 1) := by decide +kernel
theorem dL_law_30 : decode cL_law 30 = .ok (.if_icmp .gt 3731, 3) := by decide +kernel
theorem dL_law_33 : decode cL_law 33 = .ok (.aload_n 0, 1) := by decide +kernel
theorem dL_law_34 : decode cL_law 34 = .ok (.iload 4, 2) := by decide +kernel
theorem dL_law_36 : decode cL_law 36 = .ok (.iaload, 1) := by decide +kernel
theorem dL_law_37 : decode cL_law 37 = .ok (.bipush 63, 2) := by decide +kernel
theorem dL_law_39 : decode cL_law 39 = .ok (.iand, 1) := by decide +kernel
theorem dL_law_40 : decode cL_law 40 = .ok (.tableswitch 3715 0 53 #[232, 300, 380, 448, 461, 517, 573, 629, 747, 827, 919, 1034, 1126, 1194, 1262, 1330, 1405, 1485, 1589, 1652, 1665, 1768, 1848, 1904, 1917, 1973, 2029, 2042, 2098, 2111, 2167, 2223, 2279, 2335, 2391, 2451, 2507, 2575, 2643, 2711, 2779, 2847, 2903, 2971, 3027, 3083, 3151, 3219, 3275, 3343, 3411, 3479, 3535, 3591], 232) := by decide +kernel
theorem dL_law_272 : decode cL_law 272 = .ok (.aload_n 1, 1) := by decide +kernel
theorem dL_law_273 : decode cL_law 273 = .ok (.aload_n 0, 1) := by decide +kernel
theorem dL_law_274 : decode cL_law 274 = .ok (.iload 4, 2) := by decide +kernel
theorem dL_law_276 : decode cL_law 276 = .ok (.iconst 1, 1) := by decide +kernel
theorem dL_law_277 : decode cL_law 277 = .ok (.iadd, 1) := by decide +kernel
theorem dL_law_278 : decode cL_law 278 = .ok (.iaload, 1) := by decide +kernel
theorem dL_law_279 : decode cL_law 279 = .ok (.aload_n 0, 1) := by decide +kernel
theorem dL_law_280 : decode cL_law 280 = .ok (.iload 4, 2) := by decide +kernel
theorem dL_law_282 : decode cL_law 282 = .ok (.iconst 2, 1) := by decide +kernel
theorem dL_law_283 : decode cL_law 283 = .ok (.iadd, 1) := by decide +kernel
theorem dL_law_284 : decode cL_law 284 = .ok (.iaload, 1) := by decide +kernel
theorem dL_law_285 : decode cL_law 285 = .ok (.aload_n 3, 1) := by decide +kernel
theorem dL_law_286 : decode cL_law 286 = .ok (.invokestatic 178, 3) := by decide +kernel
theorem dL_law_289 : decode cL_law 289 = .ok (.istore 5, 2) := by decide +kernel
theorem dL_law_291 : decode cL_law 291 = .ok (.aload_n 2, 1) := by decide +kernel
theorem dL_law_292 : decode cL_law 292 = .ok (.aload_n 0, 1) := by decide +kernel
theorem dL_law_293 : decode cL_law 293 = .ok (.iload 4, 2) := by decide +kernel
theorem dL_law_295 : decode cL_law 295 = .ok (.iconst 1, 1) := by decide +kernel
theorem dL_law_296 : decode cL_law 296 = .ok (.iadd, 1) := by decide +kernel
theorem dL_law_297 : decode cL_law 297 = .ok (.iaload, 1) := by decide +kernel
theorem dL_law_298 : decode cL_law 298 = .ok (.aload_n 0, 1) := by decide +kernel
theorem dL_law_299 : decode cL_law 299 = .ok (.iload 4, 2) := by decide +kernel
theorem dL_law_301 : decode cL_law 301 = .ok (.iconst 2, 1) := by decide +kernel
theorem dL_law_302 : decode cL_law 302 = .ok (.iadd, 1) := by decide +kernel
theorem dL_law_303 : decode cL_law 303 = .ok (.iaload, 1) := by decide +kernel
theorem dL_law_304 : decode cL_law 304 = .ok (.invokevirtual 183, 3) := by decide +kernel
theorem dL_law_307 : decode cL_law 307 = .ok (.istore 6, 2) := by decide +kernel
theorem dL_law_309 : decode cL_law 309 = .ok (.aload_n 2, 1) := by decide +kernel
theorem dL_law_310 : decode cL_law 310 = .ok (.invokevirtual 184, 3) := by decide +kernel
theorem dL_law_313 : decode cL_law 313 = .ok (.iload 5, 2) := by decide +kernel
theorem dL_law_315 : decode cL_law 315 = .ok (.if_icmp .eq 5, 3) := by decide +kernel
theorem dL_law_318 : decode cL_law 318 = .ok (.iconst 0, 1) := by decide +kernel
theorem dL_law_319 : decode cL_law 319 = .ok (.ireturn, 1) := by decide +kernel
theorem dL_law_320 : decode cL_law 320 = .ok (.iload 5, 2) := by decide +kernel
theorem dL_law_322 : decode cL_law 322 = .ok (.ifCond .ne 15, 3) := by decide +kernel
theorem dL_law_325 : decode cL_law 325 = .ok (.aload_n 3, 1) := by decide +kernel
theorem dL_law_326 : decode cL_law 326 = .ok (.iconst 0, 1) := by decide +kernel
theorem dL_law_327 : decode cL_law 327 = .ok (.laload, 1) := by decide +kernel
theorem dL_law_328 : decode cL_law 328 = .ok (.iload 6, 2) := by decide +kernel
theorem dL_law_330 : decode cL_law 330 = .ok (.i2l, 1) := by decide +kernel
theorem dL_law_331 : decode cL_law 331 = .ok (.lcmp, 1) := by decide +kernel
theorem dL_law_332 : decode cL_law 332 = .ok (.ifCond .eq 5, 3) := by decide +kernel
theorem dL_law_335 : decode cL_law 335 = .ok (.iconst 0, 1) := by decide +kernel
theorem dL_law_336 : decode cL_law 336 = .ok (.ireturn, 1) := by decide +kernel
theorem dL_law_337 : decode cL_law 337 = .ok (.goto 3418, 3) := by decide +kernel
theorem dL_law_340 : decode cL_law 340 = .ok (.aload_n 1, 1) := by decide +kernel
theorem dL_law_341 : decode cL_law 341 = .ok (.aload_n 0, 1) := by decide +kernel
theorem dL_law_342 : decode cL_law 342 = .ok (.iload 4, 2) := by decide +kernel
theorem dL_law_344 : decode cL_law 344 = .ok (.iconst 1, 1) := by decide +kernel
theorem dL_law_345 : decode cL_law 345 = .ok (.iadd, 1) := by decide +kernel
theorem dL_law_346 : decode cL_law 346 = .ok (.iaload, 1) := by decide +kernel
theorem dL_law_347 : decode cL_law 347 = .ok (.aload_n 0, 1) := by decide +kernel
theorem dL_law_348 : decode cL_law 348 = .ok (.iload 4, 2) := by decide +kernel
theorem dL_law_350 : decode cL_law 350 = .ok (.iconst 2, 1) := by decide +kernel
theorem dL_law_351 : decode cL_law 351 = .ok (.iadd, 1) := by decide +kernel
theorem dL_law_352 : decode cL_law 352 = .ok (.iaload, 1) := by decide +kernel
theorem dL_law_353 : decode cL_law 353 = .ok (.aload_n 0, 1) := by decide +kernel
theorem dL_law_354 : decode cL_law 354 = .ok (.iload 4, 2) := by decide +kernel
theorem dL_law_356 : decode cL_law 356 = .ok (.iconst 3, 1) := by decide +kernel
theorem dL_law_357 : decode cL_law 357 = .ok (.iadd, 1) := by decide +kernel
theorem dL_law_358 : decode cL_law 358 = .ok (.iaload, 1) := by decide +kernel
theorem dL_law_359 : decode cL_law 359 = .ok (.aload_n 3, 1) := by decide +kernel
theorem dL_law_360 : decode cL_law 360 = .ok (.invokestatic 188, 3) := by decide +kernel
theorem dL_law_363 : decode cL_law 363 = .ok (.istore 5, 2) := by decide +kernel
theorem dL_law_365 : decode cL_law 365 = .ok (.aload_n 2, 1) := by decide +kernel
theorem dL_law_366 : decode cL_law 366 = .ok (.aload_n 0, 1) := by decide +kernel
theorem dL_law_367 : decode cL_law 367 = .ok (.iload 4, 2) := by decide +kernel
theorem dL_law_369 : decode cL_law 369 = .ok (.iconst 1, 1) := by decide +kernel
theorem dL_law_370 : decode cL_law 370 = .ok (.iadd, 1) := by decide +kernel
theorem dL_law_371 : decode cL_law 371 = .ok (.iaload, 1) := by decide +kernel
theorem dL_law_372 : decode cL_law 372 = .ok (.aload_n 0, 1) := by decide +kernel
theorem dL_law_373 : decode cL_law 373 = .ok (.iload 4, 2) := by decide +kernel
theorem dL_law_375 : decode cL_law 375 = .ok (.iconst 2, 1) := by decide +kernel
theorem dL_law_376 : decode cL_law 376 = .ok (.iadd, 1) := by decide +kernel
theorem dL_law_377 : decode cL_law 377 = .ok (.iaload, 1) := by decide +kernel
theorem dL_law_378 : decode cL_law 378 = .ok (.aload_n 0, 1) := by decide +kernel
theorem dL_law_379 : decode cL_law 379 = .ok (.iload 4, 2) := by decide +kernel
theorem dL_law_381 : decode cL_law 381 = .ok (.iconst 3, 1) := by decide +kernel
theorem dL_law_382 : decode cL_law 382 = .ok (.iadd, 1) := by decide +kernel
theorem dL_law_383 : decode cL_law 383 = .ok (.iaload, 1) := by decide +kernel
theorem dL_law_384 : decode cL_law 384 = .ok (.invokevirtual 191, 3) := by decide +kernel
theorem dL_law_387 : decode cL_law 387 = .ok (.istore 6, 2) := by decide +kernel
theorem dL_law_389 : decode cL_law 389 = .ok (.aload_n 2, 1) := by decide +kernel
theorem dL_law_390 : decode cL_law 390 = .ok (.invokevirtual 184, 3) := by decide +kernel
theorem dL_law_393 : decode cL_law 393 = .ok (.iload 5, 2) := by decide +kernel
theorem dL_law_395 : decode cL_law 395 = .ok (.if_icmp .eq 5, 3) := by decide +kernel
theorem dL_law_398 : decode cL_law 398 = .ok (.iconst 0, 1) := by decide +kernel
theorem dL_law_399 : decode cL_law 399 = .ok (.ireturn, 1) := by decide +kernel
theorem dL_law_400 : decode cL_law 400 = .ok (.iload 5, 2) := by decide +kernel
theorem dL_law_402 : decode cL_law 402 = .ok (.ifCond .ne 15, 3) := by decide +kernel
theorem dL_law_405 : decode cL_law 405 = .ok (.aload_n 3, 1) := by decide +kernel
theorem dL_law_406 : decode cL_law 406 = .ok (.iconst 0, 1) := by decide +kernel
theorem dL_law_407 : decode cL_law 407 = .ok (.laload, 1) := by decide +kernel
theorem dL_law_408 : decode cL_law 408 = .ok (.iload 6, 2) := by decide +kernel
theorem dL_law_410 : decode cL_law 410 = .ok (.i2l, 1) := by decide +kernel
theorem dL_law_411 : decode cL_law 411 = .ok (.lcmp, 1) := by decide +kernel
theorem dL_law_412 : decode cL_law 412 = .ok (.ifCond .eq 5, 3) := by decide +kernel
theorem dL_law_415 : decode cL_law 415 = .ok (.iconst 0, 1) := by decide +kernel
theorem dL_law_416 : decode cL_law 416 = .ok (.ireturn, 1) := by decide +kernel
theorem dL_law_417 : decode cL_law 417 = .ok (.goto 3338, 3) := by decide +kernel
theorem dL_law_420 : decode cL_law 420 = .ok (.aload_n 1, 1) := by decide +kernel
theorem dL_law_421 : decode cL_law 421 = .ok (.aload_n 0, 1) := by decide +kernel
theorem dL_law_422 : decode cL_law 422 = .ok (.iload 4, 2) := by decide +kernel
theorem dL_law_424 : decode cL_law 424 = .ok (.iconst 1, 1) := by decide +kernel
theorem dL_law_425 : decode cL_law 425 = .ok (.iadd, 1) := by decide +kernel
theorem dL_law_426 : decode cL_law 426 = .ok (.iaload, 1) := by decide +kernel
theorem dL_law_427 : decode cL_law 427 = .ok (.aload_n 0, 1) := by decide +kernel
theorem dL_law_428 : decode cL_law 428 = .ok (.iload 4, 2) := by decide +kernel
theorem dL_law_430 : decode cL_law 430 = .ok (.iconst 2, 1) := by decide +kernel
theorem dL_law_431 : decode cL_law 431 = .ok (.iadd, 1) := by decide +kernel
theorem dL_law_432 : decode cL_law 432 = .ok (.iaload, 1) := by decide +kernel
theorem dL_law_433 : decode cL_law 433 = .ok (.aload_n 3, 1) := by decide +kernel
theorem dL_law_434 : decode cL_law 434 = .ok (.invokestatic 192, 3) := by decide +kernel
theorem dL_law_437 : decode cL_law 437 = .ok (.istore 5, 2) := by decide +kernel
theorem dL_law_439 : decode cL_law 439 = .ok (.aload_n 2, 1) := by decide +kernel
theorem dL_law_440 : decode cL_law 440 = .ok (.aload_n 0, 1) := by decide +kernel
theorem dL_law_441 : decode cL_law 441 = .ok (.iload 4, 2) := by decide +kernel
theorem dL_law_443 : decode cL_law 443 = .ok (.iconst 1, 1) := by decide +kernel
theorem dL_law_444 : decode cL_law 444 = .ok (.iadd, 1) := by decide +kernel
theorem dL_law_445 : decode cL_law 445 = .ok (.iaload, 1) := by decide +kernel
theorem dL_law_446 : decode cL_law 446 = .ok (.aload_n 0, 1) := by decide +kernel
theorem dL_law_447 : decode cL_law 447 = .ok (.iload 4, 2) := by decide +kernel
theorem dL_law_449 : decode cL_law 449 = .ok (.iconst 2, 1) := by decide +kernel
theorem dL_law_450 : decode cL_law 450 = .ok (.iadd, 1) := by decide +kernel
theorem dL_law_451 : decode cL_law 451 = .ok (.iaload, 1) := by decide +kernel
theorem dL_law_452 : decode cL_law 452 = .ok (.invokevirtual 194, 3) := by decide +kernel
theorem dL_law_455 : decode cL_law 455 = .ok (.istore 6, 2) := by decide +kernel
theorem dL_law_457 : decode cL_law 457 = .ok (.aload_n 2, 1) := by decide +kernel
theorem dL_law_458 : decode cL_law 458 = .ok (.invokevirtual 184, 3) := by decide +kernel
theorem dL_law_461 : decode cL_law 461 = .ok (.iload 5, 2) := by decide +kernel
theorem dL_law_463 : decode cL_law 463 = .ok (.if_icmp .eq 5, 3) := by decide +kernel
theorem dL_law_466 : decode cL_law 466 = .ok (.iconst 0, 1) := by decide +kernel
theorem dL_law_467 : decode cL_law 467 = .ok (.ireturn, 1) := by decide +kernel
theorem dL_law_468 : decode cL_law 468 = .ok (.iload 5, 2) := by decide +kernel
theorem dL_law_470 : decode cL_law 470 = .ok (.ifCond .ne 15, 3) := by decide +kernel
theorem dL_law_473 : decode cL_law 473 = .ok (.aload_n 3, 1) := by decide +kernel
theorem dL_law_474 : decode cL_law 474 = .ok (.iconst 0, 1) := by decide +kernel
theorem dL_law_475 : decode cL_law 475 = .ok (.laload, 1) := by decide +kernel
theorem dL_law_476 : decode cL_law 476 = .ok (.iload 6, 2) := by decide +kernel
theorem dL_law_478 : decode cL_law 478 = .ok (.i2l, 1) := by decide +kernel
theorem dL_law_479 : decode cL_law 479 = .ok (.lcmp, 1) := by decide +kernel
theorem dL_law_480 : decode cL_law 480 = .ok (.ifCond .eq 5, 3) := by decide +kernel
theorem dL_law_483 : decode cL_law 483 = .ok (.iconst 0, 1) := by decide +kernel
theorem dL_law_484 : decode cL_law 484 = .ok (.ireturn, 1) := by decide +kernel
theorem dL_law_485 : decode cL_law 485 = .ok (.goto 3270, 3) := by decide +kernel
theorem dL_law_488 : decode cL_law 488 = .ok (.aload_n 1, 1) := by decide +kernel
theorem dL_law_489 : decode cL_law 489 = .ok (.invokevirtual 195, 3) := by decide +kernel
theorem dL_law_492 : decode cL_law 492 = .ok (.aload_n 2, 1) := by decide +kernel
theorem dL_law_493 : decode cL_law 493 = .ok (.invokevirtual 198, 3) := by decide +kernel
theorem dL_law_496 : decode cL_law 496 = .ok (.if_icmp .eq 3259, 3) := by decide +kernel
theorem dL_law_499 : decode cL_law 499 = .ok (.iconst 0, 1) := by decide +kernel
theorem dL_law_500 : decode cL_law 500 = .ok (.ireturn, 1) := by decide +kernel
theorem dL_law_501 : decode cL_law 501 = .ok (.aload_n 1, 1) := by decide +kernel
theorem dL_law_502 : decode cL_law 502 = .ok (.aload_n 0, 1) := by decide +kernel
theorem dL_law_503 : decode cL_law 503 = .ok (.iload 4, 2) := by decide +kernel
theorem dL_law_505 : decode cL_law 505 = .ok (.iconst 1, 1) := by decide +kernel
theorem dL_law_506 : decode cL_law 506 = .ok (.iadd, 1) := by decide +kernel
theorem dL_law_507 : decode cL_law 507 = .ok (.iaload, 1) := by decide +kernel
theorem dL_law_508 : decode cL_law 508 = .ok (.aload_n 3, 1) := by decide +kernel
theorem dL_law_509 : decode cL_law 509 = .ok (.invokestatic 199, 3) := by decide +kernel
theorem dL_law_512 : decode cL_law 512 = .ok (.istore 5, 2) := by decide +kernel
theorem dL_law_514 : decode cL_law 514 = .ok (.aload_n 2, 1) := by decide +kernel
theorem dL_law_515 : decode cL_law 515 = .ok (.aload_n 0, 1) := by decide +kernel
theorem dL_law_516 : decode cL_law 516 = .ok (.iload 4, 2) := by decide +kernel
theorem dL_law_518 : decode cL_law 518 = .ok (.iconst 1, 1) := by decide +kernel
theorem dL_law_519 : decode cL_law 519 = .ok (.iadd, 1) := by decide +kernel
theorem dL_law_520 : decode cL_law 520 = .ok (.iaload, 1) := by decide +kernel
theorem dL_law_521 : decode cL_law 521 = .ok (.invokevirtual 202, 3) := by decide +kernel
theorem dL_law_524 : decode cL_law 524 = .ok (.istore 6, 2) := by decide +kernel
theorem dL_law_526 : decode cL_law 526 = .ok (.aload_n 2, 1) := by decide +kernel
theorem dL_law_527 : decode cL_law 527 = .ok (.invokevirtual 184, 3) := by decide +kernel
theorem dL_law_530 : decode cL_law 530 = .ok (.iload 5, 2) := by decide +kernel
theorem dL_law_532 : decode cL_law 532 = .ok (.if_icmp .eq 5, 3) := by decide +kernel
theorem dL_law_535 : decode cL_law 535 = .ok (.iconst 0, 1) := by decide +kernel
theorem dL_law_536 : decode cL_law 536 = .ok (.ireturn, 1) := by decide +kernel
theorem dL_law_537 : decode cL_law 537 = .ok (.iload 5, 2) := by decide +kernel
theorem dL_law_539 : decode cL_law 539 = .ok (.ifCond .ne 15, 3) := by decide +kernel
theorem dL_law_542 : decode cL_law 542 = .ok (.aload_n 3, 1) := by decide +kernel
theorem dL_law_543 : decode cL_law 543 = .ok (.iconst 0, 1) := by decide +kernel
theorem dL_law_544 : decode cL_law 544 = .ok (.laload, 1) := by decide +kernel
theorem dL_law_545 : decode cL_law 545 = .ok (.iload 6, 2) := by decide +kernel
theorem dL_law_547 : decode cL_law 547 = .ok (.i2l, 1) := by decide +kernel
theorem dL_law_548 : decode cL_law 548 = .ok (.lcmp, 1) := by decide +kernel
theorem dL_law_549 : decode cL_law 549 = .ok (.ifCond .eq 5, 3) := by decide +kernel
theorem dL_law_552 : decode cL_law 552 = .ok (.iconst 0, 1) := by decide +kernel
theorem dL_law_553 : decode cL_law 553 = .ok (.ireturn, 1) := by decide +kernel
theorem dL_law_554 : decode cL_law 554 = .ok (.goto 3201, 3) := by decide +kernel
theorem dL_law_557 : decode cL_law 557 = .ok (.aload_n 1, 1) := by decide +kernel
theorem dL_law_558 : decode cL_law 558 = .ok (.aload_n 0, 1) := by decide +kernel
theorem dL_law_559 : decode cL_law 559 = .ok (.iload 4, 2) := by decide +kernel
theorem dL_law_561 : decode cL_law 561 = .ok (.iconst 1, 1) := by decide +kernel
theorem dL_law_562 : decode cL_law 562 = .ok (.iadd, 1) := by decide +kernel
theorem dL_law_563 : decode cL_law 563 = .ok (.iaload, 1) := by decide +kernel
theorem dL_law_564 : decode cL_law 564 = .ok (.aload_n 3, 1) := by decide +kernel
theorem dL_law_565 : decode cL_law 565 = .ok (.invokestatic 203, 3) := by decide +kernel
theorem dL_law_568 : decode cL_law 568 = .ok (.istore 5, 2) := by decide +kernel
theorem dL_law_570 : decode cL_law 570 = .ok (.aload_n 2, 1) := by decide +kernel
theorem dL_law_571 : decode cL_law 571 = .ok (.aload_n 0, 1) := by decide +kernel
theorem dL_law_572 : decode cL_law 572 = .ok (.iload 4, 2) := by decide +kernel
theorem dL_law_574 : decode cL_law 574 = .ok (.iconst 1, 1) := by decide +kernel
theorem dL_law_575 : decode cL_law 575 = .ok (.iadd, 1) := by decide +kernel
theorem dL_law_576 : decode cL_law 576 = .ok (.iaload, 1) := by decide +kernel
theorem dL_law_577 : decode cL_law 577 = .ok (.invokevirtual 205, 3) := by decide +kernel
theorem dL_law_580 : decode cL_law 580 = .ok (.istore 6, 2) := by decide +kernel
theorem dL_law_582 : decode cL_law 582 = .ok (.aload_n 2, 1) := by decide +kernel
theorem dL_law_583 : decode cL_law 583 = .ok (.invokevirtual 184, 3) := by decide +kernel
theorem dL_law_586 : decode cL_law 586 = .ok (.iload 5, 2) := by decide +kernel
theorem dL_law_588 : decode cL_law 588 = .ok (.if_icmp .eq 5, 3) := by decide +kernel
theorem dL_law_591 : decode cL_law 591 = .ok (.iconst 0, 1) := by decide +kernel
theorem dL_law_592 : decode cL_law 592 = .ok (.ireturn, 1) := by decide +kernel
theorem dL_law_593 : decode cL_law 593 = .ok (.iload 5, 2) := by decide +kernel
theorem dL_law_595 : decode cL_law 595 = .ok (.ifCond .ne 15, 3) := by decide +kernel
theorem dL_law_598 : decode cL_law 598 = .ok (.aload_n 3, 1) := by decide +kernel
theorem dL_law_599 : decode cL_law 599 = .ok (.iconst 0, 1) := by decide +kernel
theorem dL_law_600 : decode cL_law 600 = .ok (.laload, 1) := by decide +kernel
theorem dL_law_601 : decode cL_law 601 = .ok (.iload 6, 2) := by decide +kernel
theorem dL_law_603 : decode cL_law 603 = .ok (.i2l, 1) := by decide +kernel
theorem dL_law_604 : decode cL_law 604 = .ok (.lcmp, 1) := by decide +kernel
theorem dL_law_605 : decode cL_law 605 = .ok (.ifCond .eq 5, 3) := by decide +kernel
theorem dL_law_608 : decode cL_law 608 = .ok (.iconst 0, 1) := by decide +kernel
theorem dL_law_609 : decode cL_law 609 = .ok (.ireturn, 1) := by decide +kernel
theorem dL_law_610 : decode cL_law 610 = .ok (.goto 3145, 3) := by decide +kernel
theorem dL_law_613 : decode cL_law 613 = .ok (.aload_n 1, 1) := by decide +kernel
theorem dL_law_614 : decode cL_law 614 = .ok (.aload_n 0, 1) := by decide +kernel
theorem dL_law_615 : decode cL_law 615 = .ok (.iload 4, 2) := by decide +kernel
theorem dL_law_617 : decode cL_law 617 = .ok (.iconst 1, 1) := by decide +kernel
theorem dL_law_618 : decode cL_law 618 = .ok (.iadd, 1) := by decide +kernel
theorem dL_law_619 : decode cL_law 619 = .ok (.iaload, 1) := by decide +kernel
theorem dL_law_620 : decode cL_law 620 = .ok (.aload_n 3, 1) := by decide +kernel
theorem dL_law_621 : decode cL_law 621 = .ok (.invokestatic 206, 3) := by decide +kernel
theorem dL_law_624 : decode cL_law 624 = .ok (.istore 5, 2) := by decide +kernel
theorem dL_law_626 : decode cL_law 626 = .ok (.aload_n 2, 1) := by decide +kernel
theorem dL_law_627 : decode cL_law 627 = .ok (.aload_n 0, 1) := by decide +kernel
theorem dL_law_628 : decode cL_law 628 = .ok (.iload 4, 2) := by decide +kernel
theorem dL_law_630 : decode cL_law 630 = .ok (.iconst 1, 1) := by decide +kernel
theorem dL_law_631 : decode cL_law 631 = .ok (.iadd, 1) := by decide +kernel
theorem dL_law_632 : decode cL_law 632 = .ok (.iaload, 1) := by decide +kernel
theorem dL_law_633 : decode cL_law 633 = .ok (.invokevirtual 208, 3) := by decide +kernel
theorem dL_law_636 : decode cL_law 636 = .ok (.istore 6, 2) := by decide +kernel
theorem dL_law_638 : decode cL_law 638 = .ok (.aload_n 2, 1) := by decide +kernel
theorem dL_law_639 : decode cL_law 639 = .ok (.invokevirtual 184, 3) := by decide +kernel
theorem dL_law_642 : decode cL_law 642 = .ok (.iload 5, 2) := by decide +kernel
theorem dL_law_644 : decode cL_law 644 = .ok (.if_icmp .eq 5, 3) := by decide +kernel
theorem dL_law_647 : decode cL_law 647 = .ok (.iconst 0, 1) := by decide +kernel
theorem dL_law_648 : decode cL_law 648 = .ok (.ireturn, 1) := by decide +kernel
theorem dL_law_649 : decode cL_law 649 = .ok (.iload 5, 2) := by decide +kernel
theorem dL_law_651 : decode cL_law 651 = .ok (.ifCond .ne 15, 3) := by decide +kernel
theorem dL_law_654 : decode cL_law 654 = .ok (.aload_n 3, 1) := by decide +kernel
theorem dL_law_655 : decode cL_law 655 = .ok (.iconst 0, 1) := by decide +kernel
theorem dL_law_656 : decode cL_law 656 = .ok (.laload, 1) := by decide +kernel
theorem dL_law_657 : decode cL_law 657 = .ok (.iload 6, 2) := by decide +kernel
theorem dL_law_659 : decode cL_law 659 = .ok (.i2l, 1) := by decide +kernel
theorem dL_law_660 : decode cL_law 660 = .ok (.lcmp, 1) := by decide +kernel
theorem dL_law_661 : decode cL_law 661 = .ok (.ifCond .eq 5, 3) := by decide +kernel
theorem dL_law_664 : decode cL_law 664 = .ok (.iconst 0, 1) := by decide +kernel
theorem dL_law_665 : decode cL_law 665 = .ok (.ireturn, 1) := by decide +kernel
theorem dL_law_666 : decode cL_law 666 = .ok (.goto 3089, 3) := by decide +kernel
theorem dL_law_669 : decode cL_law 669 = .ok (.aload_n 1, 1) := by decide +kernel
theorem dL_law_670 : decode cL_law 670 = .ok (.aload_n 0, 1) := by decide +kernel
theorem dL_law_671 : decode cL_law 671 = .ok (.iload 4, 2) := by decide +kernel
theorem dL_law_673 : decode cL_law 673 = .ok (.iconst 1, 1) := by decide +kernel
theorem dL_law_674 : decode cL_law 674 = .ok (.iadd, 1) := by decide +kernel
theorem dL_law_675 : decode cL_law 675 = .ok (.iaload, 1) := by decide +kernel
theorem dL_law_676 : decode cL_law 676 = .ok (.aload_n 0, 1) := by decide +kernel
theorem dL_law_677 : decode cL_law 677 = .ok (.iload 4, 2) := by decide +kernel
theorem dL_law_679 : decode cL_law 679 = .ok (.iconst 2, 1) := by decide +kernel
theorem dL_law_680 : decode cL_law 680 = .ok (.iadd, 1) := by decide +kernel
theorem dL_law_681 : decode cL_law 681 = .ok (.iaload, 1) := by decide +kernel
theorem dL_law_682 : decode cL_law 682 = .ok (.aload_n 0, 1) := by decide +kernel
theorem dL_law_683 : decode cL_law 683 = .ok (.iload 4, 2) := by decide +kernel
theorem dL_law_685 : decode cL_law 685 = .ok (.iconst 3, 1) := by decide +kernel
theorem dL_law_686 : decode cL_law 686 = .ok (.iadd, 1) := by decide +kernel
theorem dL_law_687 : decode cL_law 687 = .ok (.iaload, 1) := by decide +kernel
theorem dL_law_688 : decode cL_law 688 = .ok (.aload_n 0, 1) := by decide +kernel
theorem dL_law_689 : decode cL_law 689 = .ok (.iload 4, 2) := by decide +kernel
theorem dL_law_691 : decode cL_law 691 = .ok (.iconst 4, 1) := by decide +kernel
theorem dL_law_692 : decode cL_law 692 = .ok (.iadd, 1) := by decide +kernel
theorem dL_law_693 : decode cL_law 693 = .ok (.iaload, 1) := by decide +kernel
theorem dL_law_694 : decode cL_law 694 = .ok (.aload_n 0, 1) := by decide +kernel
theorem dL_law_695 : decode cL_law 695 = .ok (.iload 4, 2) := by decide +kernel
theorem dL_law_697 : decode cL_law 697 = .ok (.iconst 5, 1) := by decide +kernel
theorem dL_law_698 : decode cL_law 698 = .ok (.iadd, 1) := by decide +kernel
theorem dL_law_699 : decode cL_law 699 = .ok (.iaload, 1) := by decide +kernel
theorem dL_law_700 : decode cL_law 700 = .ok (.aload_n 0, 1) := by decide +kernel
theorem dL_law_701 : decode cL_law 701 = .ok (.iload 4, 2) := by decide +kernel
theorem dL_law_703 : decode cL_law 703 = .ok (.bipush 6, 2) := by decide +kernel
theorem dL_law_705 : decode cL_law 705 = .ok (.iadd, 1) := by decide +kernel
theorem dL_law_706 : decode cL_law 706 = .ok (.iaload, 1) := by decide +kernel
theorem dL_law_707 : decode cL_law 707 = .ok (.aload_n 3, 1) := by decide +kernel
theorem dL_law_708 : decode cL_law 708 = .ok (.invokestatic 209, 3) := by decide +kernel
theorem dL_law_711 : decode cL_law 711 = .ok (.istore 5, 2) := by decide +kernel
theorem dL_law_713 : decode cL_law 713 = .ok (.aload_n 2, 1) := by decide +kernel
theorem dL_law_714 : decode cL_law 714 = .ok (.aload_n 0, 1) := by decide +kernel
theorem dL_law_715 : decode cL_law 715 = .ok (.iload 4, 2) := by decide +kernel
theorem dL_law_717 : decode cL_law 717 = .ok (.iconst 1, 1) := by decide +kernel
theorem dL_law_718 : decode cL_law 718 = .ok (.iadd, 1) := by decide +kernel
theorem dL_law_719 : decode cL_law 719 = .ok (.iaload, 1) := by decide +kernel
theorem dL_law_720 : decode cL_law 720 = .ok (.aload_n 0, 1) := by decide +kernel
theorem dL_law_721 : decode cL_law 721 = .ok (.iload 4, 2) := by decide +kernel
theorem dL_law_723 : decode cL_law 723 = .ok (.iconst 2, 1) := by decide +kernel
theorem dL_law_724 : decode cL_law 724 = .ok (.iadd, 1) := by decide +kernel
theorem dL_law_725 : decode cL_law 725 = .ok (.iaload, 1) := by decide +kernel
theorem dL_law_726 : decode cL_law 726 = .ok (.aload_n 0, 1) := by decide +kernel
theorem dL_law_727 : decode cL_law 727 = .ok (.iload 4, 2) := by decide +kernel
theorem dL_law_729 : decode cL_law 729 = .ok (.iconst 3, 1) := by decide +kernel
theorem dL_law_730 : decode cL_law 730 = .ok (.iadd, 1) := by decide +kernel
theorem dL_law_731 : decode cL_law 731 = .ok (.iaload, 1) := by decide +kernel
theorem dL_law_732 : decode cL_law 732 = .ok (.aload_n 0, 1) := by decide +kernel
theorem dL_law_733 : decode cL_law 733 = .ok (.iload 4, 2) := by decide +kernel
theorem dL_law_735 : decode cL_law 735 = .ok (.iconst 4, 1) := by decide +kernel
theorem dL_law_736 : decode cL_law 736 = .ok (.iadd, 1) := by decide +kernel
theorem dL_law_737 : decode cL_law 737 = .ok (.iaload, 1) := by decide +kernel
theorem dL_law_738 : decode cL_law 738 = .ok (.aload_n 0, 1) := by decide +kernel
theorem dL_law_739 : decode cL_law 739 = .ok (.iload 4, 2) := by decide +kernel
theorem dL_law_741 : decode cL_law 741 = .ok (.iconst 5, 1) := by decide +kernel
theorem dL_law_742 : decode cL_law 742 = .ok (.iadd, 1) := by decide +kernel
theorem dL_law_743 : decode cL_law 743 = .ok (.iaload, 1) := by decide +kernel
theorem dL_law_744 : decode cL_law 744 = .ok (.aload_n 0, 1) := by decide +kernel
theorem dL_law_745 : decode cL_law 745 = .ok (.iload 4, 2) := by decide +kernel
theorem dL_law_747 : decode cL_law 747 = .ok (.bipush 6, 2) := by decide +kernel
theorem dL_law_749 : decode cL_law 749 = .ok (.iadd, 1) := by decide +kernel
theorem dL_law_750 : decode cL_law 750 = .ok (.iaload, 1) := by decide +kernel
theorem dL_law_751 : decode cL_law 751 = .ok (.invokevirtual 212, 3) := by decide +kernel
theorem dL_law_754 : decode cL_law 754 = .ok (.istore 6, 2) := by decide +kernel
theorem dL_law_756 : decode cL_law 756 = .ok (.aload_n 2, 1) := by decide +kernel
theorem dL_law_757 : decode cL_law 757 = .ok (.invokevirtual 184, 3) := by decide +kernel
theorem dL_law_760 : decode cL_law 760 = .ok (.iload 5, 2) := by decide +kernel
theorem dL_law_762 : decode cL_law 762 = .ok (.if_icmp .eq 5, 3) := by decide +kernel
theorem dL_law_765 : decode cL_law 765 = .ok (.iconst 0, 1) := by decide +kernel
theorem dL_law_766 : decode cL_law 766 = .ok (.ireturn, 1) := by decide +kernel
theorem dL_law_767 : decode cL_law 767 = .ok (.iload 5, 2) := by decide +kernel
theorem dL_law_769 : decode cL_law 769 = .ok (.ifCond .ne 15, 3) := by decide +kernel
theorem dL_law_772 : decode cL_law 772 = .ok (.aload_n 3, 1) := by decide +kernel
theorem dL_law_773 : decode cL_law 773 = .ok (.iconst 0, 1) := by decide +kernel
theorem dL_law_774 : decode cL_law 774 = .ok (.laload, 1) := by decide +kernel
theorem dL_law_775 : decode cL_law 775 = .ok (.iload 6, 2) := by decide +kernel
theorem dL_law_777 : decode cL_law 777 = .ok (.i2l, 1) := by decide +kernel
theorem dL_law_778 : decode cL_law 778 = .ok (.lcmp, 1) := by decide +kernel
theorem dL_law_779 : decode cL_law 779 = .ok (.ifCond .eq 5, 3) := by decide +kernel
theorem dL_law_782 : decode cL_law 782 = .ok (.iconst 0, 1) := by decide +kernel
theorem dL_law_783 : decode cL_law 783 = .ok (.ireturn, 1) := by decide +kernel
theorem dL_law_784 : decode cL_law 784 = .ok (.goto 2971, 3) := by decide +kernel
theorem dL_law_787 : decode cL_law 787 = .ok (.aload_n 1, 1) := by decide +kernel
theorem dL_law_788 : decode cL_law 788 = .ok (.aload_n 0, 1) := by decide +kernel
theorem dL_law_789 : decode cL_law 789 = .ok (.iload 4, 2) := by decide +kernel
theorem dL_law_791 : decode cL_law 791 = .ok (.iconst 1, 1) := by decide +kernel
theorem dL_law_792 : decode cL_law 792 = .ok (.iadd, 1) := by decide +kernel
theorem dL_law_793 : decode cL_law 793 = .ok (.iaload, 1) := by decide +kernel
theorem dL_law_794 : decode cL_law 794 = .ok (.aload_n 0, 1) := by decide +kernel
theorem dL_law_795 : decode cL_law 795 = .ok (.iload 4, 2) := by decide +kernel
theorem dL_law_797 : decode cL_law 797 = .ok (.iconst 2, 1) := by decide +kernel
theorem dL_law_798 : decode cL_law 798 = .ok (.iadd, 1) := by decide +kernel
theorem dL_law_799 : decode cL_law 799 = .ok (.iaload, 1) := by decide +kernel
theorem dL_law_800 : decode cL_law 800 = .ok (.aload_n 0, 1) := by decide +kernel
theorem dL_law_801 : decode cL_law 801 = .ok (.iload 4, 2) := by decide +kernel
theorem dL_law_803 : decode cL_law 803 = .ok (.iconst 3, 1) := by decide +kernel
theorem dL_law_804 : decode cL_law 804 = .ok (.iadd, 1) := by decide +kernel
theorem dL_law_805 : decode cL_law 805 = .ok (.iaload, 1) := by decide +kernel
theorem dL_law_806 : decode cL_law 806 = .ok (.aload_n 3, 1) := by decide +kernel
theorem dL_law_807 : decode cL_law 807 = .ok (.invokestatic 213, 3) := by decide +kernel
theorem dL_law_810 : decode cL_law 810 = .ok (.istore 5, 2) := by decide +kernel
theorem dL_law_812 : decode cL_law 812 = .ok (.aload_n 2, 1) := by decide +kernel
theorem dL_law_813 : decode cL_law 813 = .ok (.aload_n 0, 1) := by decide +kernel
theorem dL_law_814 : decode cL_law 814 = .ok (.iload 4, 2) := by decide +kernel
theorem dL_law_816 : decode cL_law 816 = .ok (.iconst 1, 1) := by decide +kernel
theorem dL_law_817 : decode cL_law 817 = .ok (.iadd, 1) := by decide +kernel
theorem dL_law_818 : decode cL_law 818 = .ok (.iaload, 1) := by decide +kernel
theorem dL_law_819 : decode cL_law 819 = .ok (.aload_n 0, 1) := by decide +kernel
theorem dL_law_820 : decode cL_law 820 = .ok (.iload 4, 2) := by decide +kernel
theorem dL_law_822 : decode cL_law 822 = .ok (.iconst 2, 1) := by decide +kernel
theorem dL_law_823 : decode cL_law 823 = .ok (.iadd, 1) := by decide +kernel
theorem dL_law_824 : decode cL_law 824 = .ok (.iaload, 1) := by decide +kernel
theorem dL_law_825 : decode cL_law 825 = .ok (.aload_n 0, 1) := by decide +kernel
theorem dL_law_826 : decode cL_law 826 = .ok (.iload 4, 2) := by decide +kernel
theorem dL_law_828 : decode cL_law 828 = .ok (.iconst 3, 1) := by decide +kernel
theorem dL_law_829 : decode cL_law 829 = .ok (.iadd, 1) := by decide +kernel
theorem dL_law_830 : decode cL_law 830 = .ok (.iaload, 1) := by decide +kernel
theorem dL_law_831 : decode cL_law 831 = .ok (.invokevirtual 215, 3) := by decide +kernel
theorem dL_law_834 : decode cL_law 834 = .ok (.istore 6, 2) := by decide +kernel
theorem dL_law_836 : decode cL_law 836 = .ok (.aload_n 2, 1) := by decide +kernel
theorem dL_law_837 : decode cL_law 837 = .ok (.invokevirtual 184, 3) := by decide +kernel
theorem dL_law_840 : decode cL_law 840 = .ok (.iload 5, 2) := by decide +kernel
theorem dL_law_842 : decode cL_law 842 = .ok (.if_icmp .eq 5, 3) := by decide +kernel
theorem dL_law_845 : decode cL_law 845 = .ok (.iconst 0, 1) := by decide +kernel
theorem dL_law_846 : decode cL_law 846 = .ok (.ireturn, 1) := by decide +kernel
theorem dL_law_847 : decode cL_law 847 = .ok (.iload 5, 2) := by decide +kernel
theorem dL_law_849 : decode cL_law 849 = .ok (.ifCond .ne 15, 3) := by decide +kernel
theorem dL_law_852 : decode cL_law 852 = .ok (.aload_n 3, 1) := by decide +kernel
theorem dL_law_853 : decode cL_law 853 = .ok (.iconst 0, 1) := by decide +kernel
theorem dL_law_854 : decode cL_law 854 = .ok (.laload, 1) := by decide +kernel
theorem dL_law_855 : decode cL_law 855 = .ok (.iload 6, 2) := by decide +kernel
theorem dL_law_857 : decode cL_law 857 = .ok (.i2l, 1) := by decide +kernel
theorem dL_law_858 : decode cL_law 858 = .ok (.lcmp, 1) := by decide +kernel
theorem dL_law_859 : decode cL_law 859 = .ok (.ifCond .eq 5, 3) := by decide +kernel
theorem dL_law_862 : decode cL_law 862 = .ok (.iconst 0, 1) := by decide +kernel
theorem dL_law_863 : decode cL_law 863 = .ok (.ireturn, 1) := by decide +kernel
theorem dL_law_864 : decode cL_law 864 = .ok (.goto 2891, 3) := by decide +kernel
theorem dL_law_867 : decode cL_law 867 = .ok (.aload_n 1, 1) := by decide +kernel
theorem dL_law_868 : decode cL_law 868 = .ok (.aload_n 0, 1) := by decide +kernel
theorem dL_law_869 : decode cL_law 869 = .ok (.iload 4, 2) := by decide +kernel
theorem dL_law_871 : decode cL_law 871 = .ok (.iconst 1, 1) := by decide +kernel
theorem dL_law_872 : decode cL_law 872 = .ok (.iadd, 1) := by decide +kernel
theorem dL_law_873 : decode cL_law 873 = .ok (.iaload, 1) := by decide +kernel
theorem dL_law_874 : decode cL_law 874 = .ok (.aload_n 0, 1) := by decide +kernel
theorem dL_law_875 : decode cL_law 875 = .ok (.iload 4, 2) := by decide +kernel
theorem dL_law_877 : decode cL_law 877 = .ok (.iconst 2, 1) := by decide +kernel
theorem dL_law_878 : decode cL_law 878 = .ok (.iadd, 1) := by decide +kernel
theorem dL_law_879 : decode cL_law 879 = .ok (.iaload, 1) := by decide +kernel
theorem dL_law_880 : decode cL_law 880 = .ok (.aload_n 0, 1) := by decide +kernel
theorem dL_law_881 : decode cL_law 881 = .ok (.iload 4, 2) := by decide +kernel
theorem dL_law_883 : decode cL_law 883 = .ok (.iconst 3, 1) := by decide +kernel
theorem dL_law_884 : decode cL_law 884 = .ok (.iadd, 1) := by decide +kernel
theorem dL_law_885 : decode cL_law 885 = .ok (.iaload, 1) := by decide +kernel
theorem dL_law_886 : decode cL_law 886 = .ok (.aload_n 0, 1) := by decide +kernel
theorem dL_law_887 : decode cL_law 887 = .ok (.iload 4, 2) := by decide +kernel
theorem dL_law_889 : decode cL_law 889 = .ok (.iconst 4, 1) := by decide +kernel
theorem dL_law_890 : decode cL_law 890 = .ok (.iadd, 1) := by decide +kernel
theorem dL_law_891 : decode cL_law 891 = .ok (.iaload, 1) := by decide +kernel
theorem dL_law_892 : decode cL_law 892 = .ok (.aload_n 3, 1) := by decide +kernel
theorem dL_law_893 : decode cL_law 893 = .ok (.invokestatic 216, 3) := by decide +kernel
theorem dL_law_896 : decode cL_law 896 = .ok (.istore 5, 2) := by decide +kernel
theorem dL_law_898 : decode cL_law 898 = .ok (.aload_n 2, 1) := by decide +kernel
theorem dL_law_899 : decode cL_law 899 = .ok (.aload_n 0, 1) := by decide +kernel
theorem dL_law_900 : decode cL_law 900 = .ok (.iload 4, 2) := by decide +kernel
theorem dL_law_902 : decode cL_law 902 = .ok (.iconst 1, 1) := by decide +kernel
theorem dL_law_903 : decode cL_law 903 = .ok (.iadd, 1) := by decide +kernel
theorem dL_law_904 : decode cL_law 904 = .ok (.iaload, 1) := by decide +kernel
theorem dL_law_905 : decode cL_law 905 = .ok (.aload_n 0, 1) := by decide +kernel
theorem dL_law_906 : decode cL_law 906 = .ok (.iload 4, 2) := by decide +kernel
theorem dL_law_908 : decode cL_law 908 = .ok (.iconst 2, 1) := by decide +kernel
theorem dL_law_909 : decode cL_law 909 = .ok (.iadd, 1) := by decide +kernel
theorem dL_law_910 : decode cL_law 910 = .ok (.iaload, 1) := by decide +kernel
theorem dL_law_911 : decode cL_law 911 = .ok (.aload_n 0, 1) := by decide +kernel
theorem dL_law_912 : decode cL_law 912 = .ok (.iload 4, 2) := by decide +kernel
theorem dL_law_914 : decode cL_law 914 = .ok (.iconst 3, 1) := by decide +kernel
theorem dL_law_915 : decode cL_law 915 = .ok (.iadd, 1) := by decide +kernel
theorem dL_law_916 : decode cL_law 916 = .ok (.iaload, 1) := by decide +kernel
theorem dL_law_917 : decode cL_law 917 = .ok (.aload_n 0, 1) := by decide +kernel
theorem dL_law_918 : decode cL_law 918 = .ok (.iload 4, 2) := by decide +kernel
theorem dL_law_920 : decode cL_law 920 = .ok (.iconst 4, 1) := by decide +kernel
theorem dL_law_921 : decode cL_law 921 = .ok (.iadd, 1) := by decide +kernel
theorem dL_law_922 : decode cL_law 922 = .ok (.iaload, 1) := by decide +kernel
theorem dL_law_923 : decode cL_law 923 = .ok (.invokevirtual 219, 3) := by decide +kernel
theorem dL_law_926 : decode cL_law 926 = .ok (.istore 6, 2) := by decide +kernel
theorem dL_law_928 : decode cL_law 928 = .ok (.aload_n 2, 1) := by decide +kernel
theorem dL_law_929 : decode cL_law 929 = .ok (.invokevirtual 184, 3) := by decide +kernel
theorem dL_law_932 : decode cL_law 932 = .ok (.iload 5, 2) := by decide +kernel
theorem dL_law_934 : decode cL_law 934 = .ok (.if_icmp .eq 5, 3) := by decide +kernel
theorem dL_law_937 : decode cL_law 937 = .ok (.iconst 0, 1) := by decide +kernel
theorem dL_law_938 : decode cL_law 938 = .ok (.ireturn, 1) := by decide +kernel
theorem dL_law_939 : decode cL_law 939 = .ok (.iload 5, 2) := by decide +kernel
theorem dL_law_941 : decode cL_law 941 = .ok (.ifCond .ne 15, 3) := by decide +kernel
theorem dL_law_944 : decode cL_law 944 = .ok (.aload_n 3, 1) := by decide +kernel
theorem dL_law_945 : decode cL_law 945 = .ok (.iconst 0, 1) := by decide +kernel
theorem dL_law_946 : decode cL_law 946 = .ok (.laload, 1) := by decide +kernel
theorem dL_law_947 : decode cL_law 947 = .ok (.iload 6, 2) := by decide +kernel
theorem dL_law_949 : decode cL_law 949 = .ok (.i2l, 1) := by decide +kernel
theorem dL_law_950 : decode cL_law 950 = .ok (.lcmp, 1) := by decide +kernel
theorem dL_law_951 : decode cL_law 951 = .ok (.ifCond .eq 5, 3) := by decide +kernel
theorem dL_law_954 : decode cL_law 954 = .ok (.iconst 0, 1) := by decide +kernel
theorem dL_law_955 : decode cL_law 955 = .ok (.ireturn, 1) := by decide +kernel
theorem dL_law_956 : decode cL_law 956 = .ok (.goto 2799, 3) := by decide +kernel
theorem dL_law_959 : decode cL_law 959 = .ok (.aload_n 1, 1) := by decide +kernel
theorem dL_law_960 : decode cL_law 960 = .ok (.aload_n 0, 1) := by decide +kernel
theorem dL_law_961 : decode cL_law 961 = .ok (.iload 4, 2) := by decide +kernel
theorem dL_law_963 : decode cL_law 963 = .ok (.iconst 1, 1) := by decide +kernel
theorem dL_law_964 : decode cL_law 964 = .ok (.iadd, 1) := by decide +kernel
theorem dL_law_965 : decode cL_law 965 = .ok (.iaload, 1) := by decide +kernel
theorem dL_law_966 : decode cL_law 966 = .ok (.aload_n 0, 1) := by decide +kernel
theorem dL_law_967 : decode cL_law 967 = .ok (.iload 4, 2) := by decide +kernel
theorem dL_law_969 : decode cL_law 969 = .ok (.iconst 2, 1) := by decide +kernel
theorem dL_law_970 : decode cL_law 970 = .ok (.iadd, 1) := by decide +kernel
theorem dL_law_971 : decode cL_law 971 = .ok (.iaload, 1) := by decide +kernel
theorem dL_law_972 : decode cL_law 972 = .ok (.aload_n 0, 1) := by decide +kernel
theorem dL_law_973 : decode cL_law 973 = .ok (.iload 4, 2) := by decide +kernel
theorem dL_law_975 : decode cL_law 975 = .ok (.iconst 3, 1) := by decide +kernel
theorem dL_law_976 : decode cL_law 976 = .ok (.iadd, 1) := by decide +kernel
theorem dL_law_977 : decode cL_law 977 = .ok (.iaload, 1) := by decide +kernel
theorem dL_law_978 : decode cL_law 978 = .ok (.aload_n 0, 1) := by decide +kernel
theorem dL_law_979 : decode cL_law 979 = .ok (.iload 4, 2) := by decide +kernel
theorem dL_law_981 : decode cL_law 981 = .ok (.iconst 4, 1) := by decide +kernel
theorem dL_law_982 : decode cL_law 982 = .ok (.iadd, 1) := by decide +kernel
theorem dL_law_983 : decode cL_law 983 = .ok (.iaload, 1) := by decide +kernel
theorem dL_law_984 : decode cL_law 984 = .ok (.ifCond .eq 7, 3) := by decide +kernel
theorem dL_law_987 : decode cL_law 987 = .ok (.iconst 1, 1) := by decide +kernel
theorem dL_law_988 : decode cL_law 988 = .ok (.goto 4, 3) := by decide +kernel
theorem dL_law_991 : decode cL_law 991 = .ok (.iconst 0, 1) := by decide +kernel
theorem dL_law_992 : decode cL_law 992 = .ok (.aload_n 3, 1) := by decide +kernel
theorem dL_law_993 : decode cL_law 993 = .ok (.invokestatic 220, 3) := by decide +kernel
theorem dL_law_996 : decode cL_law 996 = .ok (.istore 5, 2) := by decide +kernel
theorem dL_law_998 : decode cL_law 998 = .ok (.aload_n 2, 1) := by decide +kernel
theorem dL_law_999 : decode cL_law 999 = .ok (.aload_n 0, 1) := by decide +kernel
theorem dL_law_1000 : decode cL_law 1000 = .ok (.iload 4, 2) := by decide +kernel
theorem dL_law_1002 : decode cL_law 1002 = .ok (.iconst 1, 1) := by decide +kernel
theorem dL_law_1003 : decode cL_law 1003 = .ok (.iadd, 1) := by decide +kernel
theorem dL_law_1004 : decode cL_law 1004 = .ok (.iaload, 1) := by decide +kernel
theorem dL_law_1005 : decode cL_law 1005 = .ok (.aload_n 0, 1) := by decide +kernel
theorem dL_law_1006 : decode cL_law 1006 = .ok (.iload 4, 2) := by decide +kernel
theorem dL_law_1008 : decode cL_law 1008 = .ok (.iconst 2, 1) := by decide +kernel
theorem dL_law_1009 : decode cL_law 1009 = .ok (.iadd, 1) := by decide +kernel
theorem dL_law_1010 : decode cL_law 1010 = .ok (.iaload, 1) := by decide +kernel
theorem dL_law_1011 : decode cL_law 1011 = .ok (.aload_n 0, 1) := by decide +kernel
theorem dL_law_1012 : decode cL_law 1012 = .ok (.iload 4, 2) := by decide +kernel
theorem dL_law_1014 : decode cL_law 1014 = .ok (.iconst 3, 1) := by decide +kernel
theorem dL_law_1015 : decode cL_law 1015 = .ok (.iadd, 1) := by decide +kernel
theorem dL_law_1016 : decode cL_law 1016 = .ok (.iaload, 1) := by decide +kernel
theorem dL_law_1017 : decode cL_law 1017 = .ok (.aload_n 0, 1) := by decide +kernel
theorem dL_law_1018 : decode cL_law 1018 = .ok (.iload 4, 2) := by decide +kernel
theorem dL_law_1020 : decode cL_law 1020 = .ok (.iconst 4, 1) := by decide +kernel
theorem dL_law_1021 : decode cL_law 1021 = .ok (.iadd, 1) := by decide +kernel
theorem dL_law_1022 : decode cL_law 1022 = .ok (.iaload, 1) := by decide +kernel
theorem dL_law_1023 : decode cL_law 1023 = .ok (.ifCond .eq 7, 3) := by decide +kernel
theorem dL_law_1026 : decode cL_law 1026 = .ok (.iconst 1, 1) := by decide +kernel
theorem dL_law_1027 : decode cL_law 1027 = .ok (.goto 4, 3) := by decide +kernel
theorem dL_law_1030 : decode cL_law 1030 = .ok (.iconst 0, 1) := by decide +kernel
theorem dL_law_1031 : decode cL_law 1031 = .ok (.invokevirtual 223, 3) := by decide +kernel
theorem dL_law_1034 : decode cL_law 1034 = .ok (.istore 6, 2) := by decide +kernel
theorem dL_law_1036 : decode cL_law 1036 = .ok (.aload_n 2, 1) := by decide +kernel
theorem dL_law_1037 : decode cL_law 1037 = .ok (.invokevirtual 184, 3) := by decide +kernel
theorem dL_law_1040 : decode cL_law 1040 = .ok (.iload 5, 2) := by decide +kernel
theorem dL_law_1042 : decode cL_law 1042 = .ok (.if_icmp .eq 5, 3) := by decide +kernel
theorem dL_law_1045 : decode cL_law 1045 = .ok (.iconst 0, 1) := by decide +kernel
theorem dL_law_1046 : decode cL_law 1046 = .ok (.ireturn, 1) := by decide +kernel
theorem dL_law_1047 : decode cL_law 1047 = .ok (.iload 5, 2) := by decide +kernel
theorem dL_law_1049 : decode cL_law 1049 = .ok (.ifCond .ne 22, 3) := by decide +kernel
theorem dL_law_1052 : decode cL_law 1052 = .ok (.aload_n 3, 1) := by decide +kernel
theorem dL_law_1053 : decode cL_law 1053 = .ok (.iconst 0, 1) := by decide +kernel
theorem dL_law_1054 : decode cL_law 1054 = .ok (.laload, 1) := by decide +kernel
theorem dL_law_1055 : decode cL_law 1055 = .ok (.iload 6, 2) := by decide +kernel
theorem dL_law_1057 : decode cL_law 1057 = .ok (.ifCond .eq 7, 3) := by decide +kernel
theorem dL_law_1060 : decode cL_law 1060 = .ok (.lconst 1, 1) := by decide +kernel
theorem dL_law_1061 : decode cL_law 1061 = .ok (.goto 4, 3) := by decide +kernel
theorem dL_law_1064 : decode cL_law 1064 = .ok (.lconst 0, 1) := by decide +kernel
theorem dL_law_1065 : decode cL_law 1065 = .ok (.lcmp, 1) := by decide +kernel
theorem dL_law_1066 : decode cL_law 1066 = .ok (.ifCond .eq 5, 3) := by decide +kernel
theorem dL_law_1069 : decode cL_law 1069 = .ok (.iconst 0, 1) := by decide +kernel
theorem dL_law_1070 : decode cL_law 1070 = .ok (.ireturn, 1) := by decide +kernel
theorem dL_law_1071 : decode cL_law 1071 = .ok (.goto 2684, 3) := by decide +kernel
theorem dL_law_1074 : decode cL_law 1074 = .ok (.aload_n 1, 1) := by decide +kernel
theorem dL_law_1075 : decode cL_law 1075 = .ok (.aload_n 0, 1) := by decide +kernel
theorem dL_law_1076 : decode cL_law 1076 = .ok (.iload 4, 2) := by decide +kernel
theorem dL_law_1078 : decode cL_law 1078 = .ok (.iconst 1, 1) := by decide +kernel
theorem dL_law_1079 : decode cL_law 1079 = .ok (.iadd, 1) := by decide +kernel
theorem dL_law_1080 : decode cL_law 1080 = .ok (.iaload, 1) := by decide +kernel
theorem dL_law_1081 : decode cL_law 1081 = .ok (.aload_n 0, 1) := by decide +kernel
theorem dL_law_1082 : decode cL_law 1082 = .ok (.iload 4, 2) := by decide +kernel
theorem dL_law_1084 : decode cL_law 1084 = .ok (.iconst 2, 1) := by decide +kernel
theorem dL_law_1085 : decode cL_law 1085 = .ok (.iadd, 1) := by decide +kernel
theorem dL_law_1086 : decode cL_law 1086 = .ok (.iaload, 1) := by decide +kernel
theorem dL_law_1087 : decode cL_law 1087 = .ok (.aload_n 0, 1) := by decide +kernel
theorem dL_law_1088 : decode cL_law 1088 = .ok (.iload 4, 2) := by decide +kernel
theorem dL_law_1090 : decode cL_law 1090 = .ok (.iconst 3, 1) := by decide +kernel
theorem dL_law_1091 : decode cL_law 1091 = .ok (.iadd, 1) := by decide +kernel
theorem dL_law_1092 : decode cL_law 1092 = .ok (.iaload, 1) := by decide +kernel
theorem dL_law_1093 : decode cL_law 1093 = .ok (.aload_n 0, 1) := by decide +kernel
theorem dL_law_1094 : decode cL_law 1094 = .ok (.iload 4, 2) := by decide +kernel
theorem dL_law_1096 : decode cL_law 1096 = .ok (.iconst 4, 1) := by decide +kernel
theorem dL_law_1097 : decode cL_law 1097 = .ok (.iadd, 1) := by decide +kernel
theorem dL_law_1098 : decode cL_law 1098 = .ok (.iaload, 1) := by decide +kernel
theorem dL_law_1099 : decode cL_law 1099 = .ok (.aload_n 3, 1) := by decide +kernel
theorem dL_law_1100 : decode cL_law 1100 = .ok (.invokestatic 224, 3) := by decide +kernel
theorem dL_law_1103 : decode cL_law 1103 = .ok (.istore 5, 2) := by decide +kernel
theorem dL_law_1105 : decode cL_law 1105 = .ok (.aload_n 2, 1) := by decide +kernel
theorem dL_law_1106 : decode cL_law 1106 = .ok (.aload_n 0, 1) := by decide +kernel
theorem dL_law_1107 : decode cL_law 1107 = .ok (.iload 4, 2) := by decide +kernel
theorem dL_law_1109 : decode cL_law 1109 = .ok (.iconst 1, 1) := by decide +kernel
theorem dL_law_1110 : decode cL_law 1110 = .ok (.iadd, 1) := by decide +kernel
theorem dL_law_1111 : decode cL_law 1111 = .ok (.iaload, 1) := by decide +kernel
theorem dL_law_1112 : decode cL_law 1112 = .ok (.aload_n 0, 1) := by decide +kernel
theorem dL_law_1113 : decode cL_law 1113 = .ok (.iload 4, 2) := by decide +kernel
theorem dL_law_1115 : decode cL_law 1115 = .ok (.iconst 2, 1) := by decide +kernel
theorem dL_law_1116 : decode cL_law 1116 = .ok (.iadd, 1) := by decide +kernel
theorem dL_law_1117 : decode cL_law 1117 = .ok (.iaload, 1) := by decide +kernel
theorem dL_law_1118 : decode cL_law 1118 = .ok (.aload_n 0, 1) := by decide +kernel
theorem dL_law_1119 : decode cL_law 1119 = .ok (.iload 4, 2) := by decide +kernel
theorem dL_law_1121 : decode cL_law 1121 = .ok (.iconst 3, 1) := by decide +kernel
theorem dL_law_1122 : decode cL_law 1122 = .ok (.iadd, 1) := by decide +kernel
theorem dL_law_1123 : decode cL_law 1123 = .ok (.iaload, 1) := by decide +kernel
theorem dL_law_1124 : decode cL_law 1124 = .ok (.aload_n 0, 1) := by decide +kernel
theorem dL_law_1125 : decode cL_law 1125 = .ok (.iload 4, 2) := by decide +kernel
theorem dL_law_1127 : decode cL_law 1127 = .ok (.iconst 4, 1) := by decide +kernel
theorem dL_law_1128 : decode cL_law 1128 = .ok (.iadd, 1) := by decide +kernel
theorem dL_law_1129 : decode cL_law 1129 = .ok (.iaload, 1) := by decide +kernel
theorem dL_law_1130 : decode cL_law 1130 = .ok (.invokevirtual 226, 3) := by decide +kernel
theorem dL_law_1133 : decode cL_law 1133 = .ok (.istore 6, 2) := by decide +kernel
theorem dL_law_1135 : decode cL_law 1135 = .ok (.aload_n 2, 1) := by decide +kernel
theorem dL_law_1136 : decode cL_law 1136 = .ok (.invokevirtual 184, 3) := by decide +kernel
theorem dL_law_1139 : decode cL_law 1139 = .ok (.iload 5, 2) := by decide +kernel
theorem dL_law_1141 : decode cL_law 1141 = .ok (.if_icmp .eq 5, 3) := by decide +kernel
theorem dL_law_1144 : decode cL_law 1144 = .ok (.iconst 0, 1) := by decide +kernel
theorem dL_law_1145 : decode cL_law 1145 = .ok (.ireturn, 1) := by decide +kernel
theorem dL_law_1146 : decode cL_law 1146 = .ok (.iload 5, 2) := by decide +kernel
theorem dL_law_1148 : decode cL_law 1148 = .ok (.ifCond .ne 15, 3) := by decide +kernel
theorem dL_law_1151 : decode cL_law 1151 = .ok (.aload_n 3, 1) := by decide +kernel
theorem dL_law_1152 : decode cL_law 1152 = .ok (.iconst 0, 1) := by decide +kernel
theorem dL_law_1153 : decode cL_law 1153 = .ok (.laload, 1) := by decide +kernel
theorem dL_law_1154 : decode cL_law 1154 = .ok (.iload 6, 2) := by decide +kernel
theorem dL_law_1156 : decode cL_law 1156 = .ok (.i2l, 1) := by decide +kernel
theorem dL_law_1157 : decode cL_law 1157 = .ok (.lcmp, 1) := by decide +kernel
theorem dL_law_1158 : decode cL_law 1158 = .ok (.ifCond .eq 5, 3) := by decide +kernel
theorem dL_law_1161 : decode cL_law 1161 = .ok (.iconst 0, 1) := by decide +kernel
theorem dL_law_1162 : decode cL_law 1162 = .ok (.ireturn, 1) := by decide +kernel
theorem dL_law_1163 : decode cL_law 1163 = .ok (.goto 2592, 3) := by decide +kernel
theorem dL_law_1166 : decode cL_law 1166 = .ok (.aload_n 1, 1) := by decide +kernel
theorem dL_law_1167 : decode cL_law 1167 = .ok (.aload_n 0, 1) := by decide +kernel
theorem dL_law_1168 : decode cL_law 1168 = .ok (.iload 4, 2) := by decide +kernel
theorem dL_law_1170 : decode cL_law 1170 = .ok (.iconst 1, 1) := by decide +kernel
theorem dL_law_1171 : decode cL_law 1171 = .ok (.iadd, 1) := by decide +kernel
theorem dL_law_1172 : decode cL_law 1172 = .ok (.iaload, 1) := by decide +kernel
theorem dL_law_1173 : decode cL_law 1173 = .ok (.aload_n 0, 1) := by decide +kernel
theorem dL_law_1174 : decode cL_law 1174 = .ok (.iload 4, 2) := by decide +kernel
theorem dL_law_1176 : decode cL_law 1176 = .ok (.iconst 2, 1) := by decide +kernel
theorem dL_law_1177 : decode cL_law 1177 = .ok (.iadd, 1) := by decide +kernel
theorem dL_law_1178 : decode cL_law 1178 = .ok (.iaload, 1) := by decide +kernel
theorem dL_law_1179 : decode cL_law 1179 = .ok (.aload_n 3, 1) := by decide +kernel
theorem dL_law_1180 : decode cL_law 1180 = .ok (.invokestatic 227, 3) := by decide +kernel
theorem dL_law_1183 : decode cL_law 1183 = .ok (.istore 5, 2) := by decide +kernel
theorem dL_law_1185 : decode cL_law 1185 = .ok (.aload_n 2, 1) := by decide +kernel
theorem dL_law_1186 : decode cL_law 1186 = .ok (.aload_n 0, 1) := by decide +kernel
theorem dL_law_1187 : decode cL_law 1187 = .ok (.iload 4, 2) := by decide +kernel
theorem dL_law_1189 : decode cL_law 1189 = .ok (.iconst 1, 1) := by decide +kernel
theorem dL_law_1190 : decode cL_law 1190 = .ok (.iadd, 1) := by decide +kernel
theorem dL_law_1191 : decode cL_law 1191 = .ok (.iaload, 1) := by decide +kernel
theorem dL_law_1192 : decode cL_law 1192 = .ok (.aload_n 0, 1) := by decide +kernel
theorem dL_law_1193 : decode cL_law 1193 = .ok (.iload 4, 2) := by decide +kernel
theorem dL_law_1195 : decode cL_law 1195 = .ok (.iconst 2, 1) := by decide +kernel
theorem dL_law_1196 : decode cL_law 1196 = .ok (.iadd, 1) := by decide +kernel
theorem dL_law_1197 : decode cL_law 1197 = .ok (.iaload, 1) := by decide +kernel
theorem dL_law_1198 : decode cL_law 1198 = .ok (.invokevirtual 229, 3) := by decide +kernel
theorem dL_law_1201 : decode cL_law 1201 = .ok (.istore 6, 2) := by decide +kernel
theorem dL_law_1203 : decode cL_law 1203 = .ok (.aload_n 2, 1) := by decide +kernel
theorem dL_law_1204 : decode cL_law 1204 = .ok (.invokevirtual 184, 3) := by decide +kernel
theorem dL_law_1207 : decode cL_law 1207 = .ok (.iload 5, 2) := by decide +kernel
theorem dL_law_1209 : decode cL_law 1209 = .ok (.if_icmp .eq 5, 3) := by decide +kernel
theorem dL_law_1212 : decode cL_law 1212 = .ok (.iconst 0, 1) := by decide +kernel
theorem dL_law_1213 : decode cL_law 1213 = .ok (.ireturn, 1) := by decide +kernel
theorem dL_law_1214 : decode cL_law 1214 = .ok (.iload 5, 2) := by decide +kernel
theorem dL_law_1216 : decode cL_law 1216 = .ok (.ifCond .ne 15, 3) := by decide +kernel
theorem dL_law_1219 : decode cL_law 1219 = .ok (.aload_n 3, 1) := by decide +kernel
theorem dL_law_1220 : decode cL_law 1220 = .ok (.iconst 0, 1) := by decide +kernel
theorem dL_law_1221 : decode cL_law 1221 = .ok (.laload, 1) := by decide +kernel
theorem dL_law_1222 : decode cL_law 1222 = .ok (.iload 6, 2) := by decide +kernel
theorem dL_law_1224 : decode cL_law 1224 = .ok (.i2l, 1) := by decide +kernel
theorem dL_law_1225 : decode cL_law 1225 = .ok (.lcmp, 1) := by decide +kernel
theorem dL_law_1226 : decode cL_law 1226 = .ok (.ifCond .eq 5, 3) := by decide +kernel
theorem dL_law_1229 : decode cL_law 1229 = .ok (.iconst 0, 1) := by decide +kernel
theorem dL_law_1230 : decode cL_law 1230 = .ok (.ireturn, 1) := by decide +kernel
theorem dL_law_1231 : decode cL_law 1231 = .ok (.goto 2524, 3) := by decide +kernel
theorem dL_law_1234 : decode cL_law 1234 = .ok (.aload_n 1, 1) := by decide +kernel
theorem dL_law_1235 : decode cL_law 1235 = .ok (.aload_n 0, 1) := by decide +kernel
theorem dL_law_1236 : decode cL_law 1236 = .ok (.iload 4, 2) := by decide +kernel
theorem dL_law_1238 : decode cL_law 1238 = .ok (.iconst 1, 1) := by decide +kernel
theorem dL_law_1239 : decode cL_law 1239 = .ok (.iadd, 1) := by decide +kernel
theorem dL_law_1240 : decode cL_law 1240 = .ok (.iaload, 1) := by decide +kernel
theorem dL_law_1241 : decode cL_law 1241 = .ok (.aload_n 0, 1) := by decide +kernel
theorem dL_law_1242 : decode cL_law 1242 = .ok (.iload 4, 2) := by decide +kernel
theorem dL_law_1244 : decode cL_law 1244 = .ok (.iconst 2, 1) := by decide +kernel
theorem dL_law_1245 : decode cL_law 1245 = .ok (.iadd, 1) := by decide +kernel
theorem dL_law_1246 : decode cL_law 1246 = .ok (.iaload, 1) := by decide +kernel
theorem dL_law_1247 : decode cL_law 1247 = .ok (.aload_n 3, 1) := by decide +kernel
theorem dL_law_1248 : decode cL_law 1248 = .ok (.invokestatic 230, 3) := by decide +kernel
theorem dL_law_1251 : decode cL_law 1251 = .ok (.istore 5, 2) := by decide +kernel
theorem dL_law_1253 : decode cL_law 1253 = .ok (.aload_n 2, 1) := by decide +kernel
theorem dL_law_1254 : decode cL_law 1254 = .ok (.aload_n 0, 1) := by decide +kernel
theorem dL_law_1255 : decode cL_law 1255 = .ok (.iload 4, 2) := by decide +kernel
theorem dL_law_1257 : decode cL_law 1257 = .ok (.iconst 1, 1) := by decide +kernel
theorem dL_law_1258 : decode cL_law 1258 = .ok (.iadd, 1) := by decide +kernel
theorem dL_law_1259 : decode cL_law 1259 = .ok (.iaload, 1) := by decide +kernel
theorem dL_law_1260 : decode cL_law 1260 = .ok (.aload_n 0, 1) := by decide +kernel
theorem dL_law_1261 : decode cL_law 1261 = .ok (.iload 4, 2) := by decide +kernel
theorem dL_law_1263 : decode cL_law 1263 = .ok (.iconst 2, 1) := by decide +kernel
theorem dL_law_1264 : decode cL_law 1264 = .ok (.iadd, 1) := by decide +kernel
theorem dL_law_1265 : decode cL_law 1265 = .ok (.iaload, 1) := by decide +kernel
theorem dL_law_1266 : decode cL_law 1266 = .ok (.invokevirtual 232, 3) := by decide +kernel
theorem dL_law_1269 : decode cL_law 1269 = .ok (.istore 6, 2) := by decide +kernel
theorem dL_law_1271 : decode cL_law 1271 = .ok (.aload_n 2, 1) := by decide +kernel
theorem dL_law_1272 : decode cL_law 1272 = .ok (.invokevirtual 184, 3) := by decide +kernel
theorem dL_law_1275 : decode cL_law 1275 = .ok (.iload 5, 2) := by decide +kernel
theorem dL_law_1277 : decode cL_law 1277 = .ok (.if_icmp .eq 5, 3) := by decide +kernel
theorem dL_law_1280 : decode cL_law 1280 = .ok (.iconst 0, 1) := by decide +kernel
theorem dL_law_1281 : decode cL_law 1281 = .ok (.ireturn, 1) := by decide +kernel
theorem dL_law_1282 : decode cL_law 1282 = .ok (.iload 5, 2) := by decide +kernel
theorem dL_law_1284 : decode cL_law 1284 = .ok (.ifCond .ne 15, 3) := by decide +kernel
theorem dL_law_1287 : decode cL_law 1287 = .ok (.aload_n 3, 1) := by decide +kernel
theorem dL_law_1288 : decode cL_law 1288 = .ok (.iconst 0, 1) := by decide +kernel
theorem dL_law_1289 : decode cL_law 1289 = .ok (.laload, 1) := by decide +kernel
theorem dL_law_1290 : decode cL_law 1290 = .ok (.iload 6, 2) := by decide +kernel
theorem dL_law_1292 : decode cL_law 1292 = .ok (.i2l, 1) := by decide +kernel
theorem dL_law_1293 : decode cL_law 1293 = .ok (.lcmp, 1) := by decide +kernel
theorem dL_law_1294 : decode cL_law 1294 = .ok (.ifCond .eq 5, 3) := by decide +kernel
theorem dL_law_1297 : decode cL_law 1297 = .ok (.iconst 0, 1) := by decide +kernel
theorem dL_law_1298 : decode cL_law 1298 = .ok (.ireturn, 1) := by decide +kernel
theorem dL_law_1299 : decode cL_law 1299 = .ok (.goto 2456, 3) := by decide +kernel
theorem dL_law_1302 : decode cL_law 1302 = .ok (.aload_n 1, 1) := by decide +kernel
theorem dL_law_1303 : decode cL_law 1303 = .ok (.aload_n 0, 1) := by decide +kernel
theorem dL_law_1304 : decode cL_law 1304 = .ok (.iload 4, 2) := by decide +kernel
theorem dL_law_1306 : decode cL_law 1306 = .ok (.iconst 1, 1) := by decide +kernel
theorem dL_law_1307 : decode cL_law 1307 = .ok (.iadd, 1) := by decide +kernel
theorem dL_law_1308 : decode cL_law 1308 = .ok (.iaload, 1) := by decide +kernel
theorem dL_law_1309 : decode cL_law 1309 = .ok (.aload_n 0, 1) := by decide +kernel
theorem dL_law_1310 : decode cL_law 1310 = .ok (.iload 4, 2) := by decide +kernel
theorem dL_law_1312 : decode cL_law 1312 = .ok (.iconst 2, 1) := by decide +kernel
theorem dL_law_1313 : decode cL_law 1313 = .ok (.iadd, 1) := by decide +kernel
theorem dL_law_1314 : decode cL_law 1314 = .ok (.iaload, 1) := by decide +kernel
theorem dL_law_1315 : decode cL_law 1315 = .ok (.aload_n 3, 1) := by decide +kernel
theorem dL_law_1316 : decode cL_law 1316 = .ok (.invokestatic 233, 3) := by decide +kernel
theorem dL_law_1319 : decode cL_law 1319 = .ok (.istore 5, 2) := by decide +kernel
theorem dL_law_1321 : decode cL_law 1321 = .ok (.aload_n 2, 1) := by decide +kernel
theorem dL_law_1322 : decode cL_law 1322 = .ok (.aload_n 0, 1) := by decide +kernel
theorem dL_law_1323 : decode cL_law 1323 = .ok (.iload 4, 2) := by decide +kernel
theorem dL_law_1325 : decode cL_law 1325 = .ok (.iconst 1, 1) := by decide +kernel
theorem dL_law_1326 : decode cL_law 1326 = .ok (.iadd, 1) := by decide +kernel
theorem dL_law_1327 : decode cL_law 1327 = .ok (.iaload, 1) := by decide +kernel
theorem dL_law_1328 : decode cL_law 1328 = .ok (.aload_n 0, 1) := by decide +kernel
theorem dL_law_1329 : decode cL_law 1329 = .ok (.iload 4, 2) := by decide +kernel
theorem dL_law_1331 : decode cL_law 1331 = .ok (.iconst 2, 1) := by decide +kernel
theorem dL_law_1332 : decode cL_law 1332 = .ok (.iadd, 1) := by decide +kernel
theorem dL_law_1333 : decode cL_law 1333 = .ok (.iaload, 1) := by decide +kernel
theorem dL_law_1334 : decode cL_law 1334 = .ok (.invokevirtual 235, 3) := by decide +kernel
theorem dL_law_1337 : decode cL_law 1337 = .ok (.istore 6, 2) := by decide +kernel
theorem dL_law_1339 : decode cL_law 1339 = .ok (.aload_n 2, 1) := by decide +kernel
theorem dL_law_1340 : decode cL_law 1340 = .ok (.invokevirtual 184, 3) := by decide +kernel
theorem dL_law_1343 : decode cL_law 1343 = .ok (.iload 5, 2) := by decide +kernel
theorem dL_law_1345 : decode cL_law 1345 = .ok (.if_icmp .eq 5, 3) := by decide +kernel
theorem dL_law_1348 : decode cL_law 1348 = .ok (.iconst 0, 1) := by decide +kernel
theorem dL_law_1349 : decode cL_law 1349 = .ok (.ireturn, 1) := by decide +kernel
theorem dL_law_1350 : decode cL_law 1350 = .ok (.iload 5, 2) := by decide +kernel
theorem dL_law_1352 : decode cL_law 1352 = .ok (.ifCond .ne 15, 3) := by decide +kernel
theorem dL_law_1355 : decode cL_law 1355 = .ok (.aload_n 3, 1) := by decide +kernel
theorem dL_law_1356 : decode cL_law 1356 = .ok (.iconst 0, 1) := by decide +kernel
theorem dL_law_1357 : decode cL_law 1357 = .ok (.laload, 1) := by decide +kernel
theorem dL_law_1358 : decode cL_law 1358 = .ok (.iload 6, 2) := by decide +kernel
theorem dL_law_1360 : decode cL_law 1360 = .ok (.i2l, 1) := by decide +kernel
theorem dL_law_1361 : decode cL_law 1361 = .ok (.lcmp, 1) := by decide +kernel
theorem dL_law_1362 : decode cL_law 1362 = .ok (.ifCond .eq 5, 3) := by decide +kernel
theorem dL_law_1365 : decode cL_law 1365 = .ok (.iconst 0, 1) := by decide +kernel
theorem dL_law_1366 : decode cL_law 1366 = .ok (.ireturn, 1) := by decide +kernel
theorem dL_law_1367 : decode cL_law 1367 = .ok (.goto 2388, 3) := by decide +kernel
theorem dL_law_1370 : decode cL_law 1370 = .ok (.aload_n 1, 1) := by decide +kernel
theorem dL_law_1371 : decode cL_law 1371 = .ok (.aload_n 0, 1) := by decide +kernel
theorem dL_law_1372 : decode cL_law 1372 = .ok (.iload 4, 2) := by decide +kernel
theorem dL_law_1374 : decode cL_law 1374 = .ok (.iconst 1, 1) := by decide +kernel
theorem dL_law_1375 : decode cL_law 1375 = .ok (.iadd, 1) := by decide +kernel
theorem dL_law_1376 : decode cL_law 1376 = .ok (.iaload, 1) := by decide +kernel
theorem dL_law_1377 : decode cL_law 1377 = .ok (.aload_n 0, 1) := by decide +kernel
theorem dL_law_1378 : decode cL_law 1378 = .ok (.iload 4, 2) := by decide +kernel
theorem dL_law_1380 : decode cL_law 1380 = .ok (.iconst 2, 1) := by decide +kernel
theorem dL_law_1381 : decode cL_law 1381 = .ok (.iadd, 1) := by decide +kernel
theorem dL_law_1382 : decode cL_law 1382 = .ok (.iaload, 1) := by decide +kernel
theorem dL_law_1383 : decode cL_law 1383 = .ok (.aload_n 3, 1) := by decide +kernel
theorem dL_law_1384 : decode cL_law 1384 = .ok (.invokestatic 236, 3) := by decide +kernel
theorem dL_law_1387 : decode cL_law 1387 = .ok (.istore 5, 2) := by decide +kernel
theorem dL_law_1389 : decode cL_law 1389 = .ok (.aload_n 2, 1) := by decide +kernel
theorem dL_law_1390 : decode cL_law 1390 = .ok (.aload_n 0, 1) := by decide +kernel
theorem dL_law_1391 : decode cL_law 1391 = .ok (.iload 4, 2) := by decide +kernel
theorem dL_law_1393 : decode cL_law 1393 = .ok (.iconst 1, 1) := by decide +kernel
theorem dL_law_1394 : decode cL_law 1394 = .ok (.iadd, 1) := by decide +kernel
theorem dL_law_1395 : decode cL_law 1395 = .ok (.iaload, 1) := by decide +kernel
theorem dL_law_1396 : decode cL_law 1396 = .ok (.aload_n 0, 1) := by decide +kernel
theorem dL_law_1397 : decode cL_law 1397 = .ok (.iload 4, 2) := by decide +kernel
theorem dL_law_1399 : decode cL_law 1399 = .ok (.iconst 2, 1) := by decide +kernel
theorem dL_law_1400 : decode cL_law 1400 = .ok (.iadd, 1) := by decide +kernel
theorem dL_law_1401 : decode cL_law 1401 = .ok (.iaload, 1) := by decide +kernel
theorem dL_law_1402 : decode cL_law 1402 = .ok (.invokevirtual 238, 3) := by decide +kernel
theorem dL_law_1405 : decode cL_law 1405 = .ok (.istore 6, 2) := by decide +kernel
theorem dL_law_1407 : decode cL_law 1407 = .ok (.aload_n 2, 1) := by decide +kernel
theorem dL_law_1408 : decode cL_law 1408 = .ok (.invokevirtual 184, 3) := by decide +kernel
theorem dL_law_1411 : decode cL_law 1411 = .ok (.iload 5, 2) := by decide +kernel
theorem dL_law_1413 : decode cL_law 1413 = .ok (.if_icmp .eq 5, 3) := by decide +kernel
theorem dL_law_1416 : decode cL_law 1416 = .ok (.iconst 0, 1) := by decide +kernel
theorem dL_law_1417 : decode cL_law 1417 = .ok (.ireturn, 1) := by decide +kernel
theorem dL_law_1418 : decode cL_law 1418 = .ok (.iload 5, 2) := by decide +kernel
theorem dL_law_1420 : decode cL_law 1420 = .ok (.ifCond .ne 22, 3) := by decide +kernel
theorem dL_law_1423 : decode cL_law 1423 = .ok (.aload_n 3, 1) := by decide +kernel
theorem dL_law_1424 : decode cL_law 1424 = .ok (.iconst 0, 1) := by decide +kernel
theorem dL_law_1425 : decode cL_law 1425 = .ok (.laload, 1) := by decide +kernel
theorem dL_law_1426 : decode cL_law 1426 = .ok (.iload 6, 2) := by decide +kernel
theorem dL_law_1428 : decode cL_law 1428 = .ok (.ifCond .eq 7, 3) := by decide +kernel
theorem dL_law_1431 : decode cL_law 1431 = .ok (.lconst 1, 1) := by decide +kernel
theorem dL_law_1432 : decode cL_law 1432 = .ok (.goto 4, 3) := by decide +kernel
theorem dL_law_1435 : decode cL_law 1435 = .ok (.lconst 0, 1) := by decide +kernel
theorem dL_law_1436 : decode cL_law 1436 = .ok (.lcmp, 1) := by decide +kernel
theorem dL_law_1437 : decode cL_law 1437 = .ok (.ifCond .eq 5, 3) := by decide +kernel
theorem dL_law_1440 : decode cL_law 1440 = .ok (.iconst 0, 1) := by decide +kernel
theorem dL_law_1441 : decode cL_law 1441 = .ok (.ireturn, 1) := by decide +kernel
theorem dL_law_1442 : decode cL_law 1442 = .ok (.goto 2313, 3) := by decide +kernel
theorem dL_law_1445 : decode cL_law 1445 = .ok (.aload_n 1, 1) := by decide +kernel
theorem dL_law_1446 : decode cL_law 1446 = .ok (.aload_n 0, 1) := by decide +kernel
theorem dL_law_1447 : decode cL_law 1447 = .ok (.iload 4, 2) := by decide +kernel
theorem dL_law_1449 : decode cL_law 1449 = .ok (.iconst 1, 1) := by decide +kernel
theorem dL_law_1450 : decode cL_law 1450 = .ok (.iadd, 1) := by decide +kernel
theorem dL_law_1451 : decode cL_law 1451 = .ok (.iaload, 1) := by decide +kernel
theorem dL_law_1452 : decode cL_law 1452 = .ok (.aload_n 0, 1) := by decide +kernel
theorem dL_law_1453 : decode cL_law 1453 = .ok (.iload 4, 2) := by decide +kernel
theorem dL_law_1455 : decode cL_law 1455 = .ok (.iconst 2, 1) := by decide +kernel
theorem dL_law_1456 : decode cL_law 1456 = .ok (.iadd, 1) := by decide +kernel
theorem dL_law_1457 : decode cL_law 1457 = .ok (.iaload, 1) := by decide +kernel
theorem dL_law_1458 : decode cL_law 1458 = .ok (.aload_n 0, 1) := by decide +kernel
theorem dL_law_1459 : decode cL_law 1459 = .ok (.iload 4, 2) := by decide +kernel
theorem dL_law_1461 : decode cL_law 1461 = .ok (.iconst 3, 1) := by decide +kernel
theorem dL_law_1462 : decode cL_law 1462 = .ok (.iadd, 1) := by decide +kernel
theorem dL_law_1463 : decode cL_law 1463 = .ok (.iaload, 1) := by decide +kernel
theorem dL_law_1464 : decode cL_law 1464 = .ok (.aload_n 3, 1) := by decide +kernel
theorem dL_law_1465 : decode cL_law 1465 = .ok (.invokestatic 239, 3) := by decide +kernel
theorem dL_law_1468 : decode cL_law 1468 = .ok (.istore 5, 2) := by decide +kernel
theorem dL_law_1470 : decode cL_law 1470 = .ok (.aload_n 2, 1) := by decide +kernel
theorem dL_law_1471 : decode cL_law 1471 = .ok (.aload_n 0, 1) := by decide +kernel
theorem dL_law_1472 : decode cL_law 1472 = .ok (.iload 4, 2) := by decide +kernel
theorem dL_law_1474 : decode cL_law 1474 = .ok (.iconst 1, 1) := by decide +kernel
theorem dL_law_1475 : decode cL_law 1475 = .ok (.iadd, 1) := by decide +kernel
theorem dL_law_1476 : decode cL_law 1476 = .ok (.iaload, 1) := by decide +kernel
theorem dL_law_1477 : decode cL_law 1477 = .ok (.aload_n 0, 1) := by decide +kernel
theorem dL_law_1478 : decode cL_law 1478 = .ok (.iload 4, 2) := by decide +kernel
theorem dL_law_1480 : decode cL_law 1480 = .ok (.iconst 2, 1) := by decide +kernel
theorem dL_law_1481 : decode cL_law 1481 = .ok (.iadd, 1) := by decide +kernel
theorem dL_law_1482 : decode cL_law 1482 = .ok (.iaload, 1) := by decide +kernel
theorem dL_law_1483 : decode cL_law 1483 = .ok (.aload_n 0, 1) := by decide +kernel
theorem dL_law_1484 : decode cL_law 1484 = .ok (.iload 4, 2) := by decide +kernel
theorem dL_law_1486 : decode cL_law 1486 = .ok (.iconst 3, 1) := by decide +kernel
theorem dL_law_1487 : decode cL_law 1487 = .ok (.iadd, 1) := by decide +kernel
theorem dL_law_1488 : decode cL_law 1488 = .ok (.iaload, 1) := by decide +kernel
theorem dL_law_1489 : decode cL_law 1489 = .ok (.invokevirtual 241, 3) := by decide +kernel
theorem dL_law_1492 : decode cL_law 1492 = .ok (.istore 6, 2) := by decide +kernel
theorem dL_law_1494 : decode cL_law 1494 = .ok (.aload_n 2, 1) := by decide +kernel
theorem dL_law_1495 : decode cL_law 1495 = .ok (.invokevirtual 184, 3) := by decide +kernel
theorem dL_law_1498 : decode cL_law 1498 = .ok (.iload 5, 2) := by decide +kernel
theorem dL_law_1500 : decode cL_law 1500 = .ok (.if_icmp .eq 5, 3) := by decide +kernel
theorem dL_law_1503 : decode cL_law 1503 = .ok (.iconst 0, 1) := by decide +kernel
theorem dL_law_1504 : decode cL_law 1504 = .ok (.ireturn, 1) := by decide +kernel
theorem dL_law_1505 : decode cL_law 1505 = .ok (.iload 5, 2) := by decide +kernel
theorem dL_law_1507 : decode cL_law 1507 = .ok (.ifCond .ne 15, 3) := by decide +kernel
theorem dL_law_1510 : decode cL_law 1510 = .ok (.aload_n 3, 1) := by decide +kernel
theorem dL_law_1511 : decode cL_law 1511 = .ok (.iconst 0, 1) := by decide +kernel
theorem dL_law_1512 : decode cL_law 1512 = .ok (.laload, 1) := by decide +kernel
theorem dL_law_1513 : decode cL_law 1513 = .ok (.iload 6, 2) := by decide +kernel
theorem dL_law_1515 : decode cL_law 1515 = .ok (.i2l, 1) := by decide +kernel
theorem dL_law_1516 : decode cL_law 1516 = .ok (.lcmp, 1) := by decide +kernel
theorem dL_law_1517 : decode cL_law 1517 = .ok (.ifCond .eq 5, 3) := by decide +kernel
theorem dL_law_1520 : decode cL_law 1520 = .ok (.iconst 0, 1) := by decide +kernel
theorem dL_law_1521 : decode cL_law 1521 = .ok (.ireturn, 1) := by decide +kernel
theorem dL_law_1522 : decode cL_law 1522 = .ok (.goto 2233, 3) := by decide +kernel
theorem dL_law_1525 : decode cL_law 1525 = .ok (.aload_n 1, 1) := by decide +kernel
theorem dL_law_1526 : decode cL_law 1526 = .ok (.aload_n 0, 1) := by decide +kernel
theorem dL_law_1527 : decode cL_law 1527 = .ok (.iload 4, 2) := by decide +kernel
theorem dL_law_1529 : decode cL_law 1529 = .ok (.iconst 1, 1) := by decide +kernel
theorem dL_law_1530 : decode cL_law 1530 = .ok (.iadd, 1) := by decide +kernel
theorem dL_law_1531 : decode cL_law 1531 = .ok (.iaload, 1) := by decide +kernel
theorem dL_law_1532 : decode cL_law 1532 = .ok (.aload_n 0, 1) := by decide +kernel
theorem dL_law_1533 : decode cL_law 1533 = .ok (.iload 4, 2) := by decide +kernel
theorem dL_law_1535 : decode cL_law 1535 = .ok (.iconst 2, 1) := by decide +kernel
theorem dL_law_1536 : decode cL_law 1536 = .ok (.iadd, 1) := by decide +kernel
theorem dL_law_1537 : decode cL_law 1537 = .ok (.iaload, 1) := by decide +kernel
theorem dL_law_1538 : decode cL_law 1538 = .ok (.aload_n 0, 1) := by decide +kernel
theorem dL_law_1539 : decode cL_law 1539 = .ok (.iload 4, 2) := by decide +kernel
theorem dL_law_1541 : decode cL_law 1541 = .ok (.iconst 3, 1) := by decide +kernel
theorem dL_law_1542 : decode cL_law 1542 = .ok (.iadd, 1) := by decide +kernel
theorem dL_law_1543 : decode cL_law 1543 = .ok (.iaload, 1) := by decide +kernel
theorem dL_law_1544 : decode cL_law 1544 = .ok (.aload_n 0, 1) := by decide +kernel
theorem dL_law_1545 : decode cL_law 1545 = .ok (.iload 4, 2) := by decide +kernel
theorem dL_law_1547 : decode cL_law 1547 = .ok (.iconst 4, 1) := by decide +kernel
theorem dL_law_1548 : decode cL_law 1548 = .ok (.iadd, 1) := by decide +kernel
theorem dL_law_1549 : decode cL_law 1549 = .ok (.iaload, 1) := by decide +kernel
theorem dL_law_1550 : decode cL_law 1550 = .ok (.aload_n 0, 1) := by decide +kernel
theorem dL_law_1551 : decode cL_law 1551 = .ok (.iload 4, 2) := by decide +kernel
theorem dL_law_1553 : decode cL_law 1553 = .ok (.iconst 5, 1) := by decide +kernel
theorem dL_law_1554 : decode cL_law 1554 = .ok (.iadd, 1) := by decide +kernel
theorem dL_law_1555 : decode cL_law 1555 = .ok (.iaload, 1) := by decide +kernel
theorem dL_law_1556 : decode cL_law 1556 = .ok (.aload_n 3, 1) := by decide +kernel
theorem dL_law_1557 : decode cL_law 1557 = .ok (.invokestatic 242, 3) := by decide +kernel
theorem dL_law_1560 : decode cL_law 1560 = .ok (.istore 5, 2) := by decide +kernel
theorem dL_law_1562 : decode cL_law 1562 = .ok (.aload_n 2, 1) := by decide +kernel
theorem dL_law_1563 : decode cL_law 1563 = .ok (.aload_n 0, 1) := by decide +kernel
theorem dL_law_1564 : decode cL_law 1564 = .ok (.iload 4, 2) := by decide +kernel
theorem dL_law_1566 : decode cL_law 1566 = .ok (.iconst 1, 1) := by decide +kernel
theorem dL_law_1567 : decode cL_law 1567 = .ok (.iadd, 1) := by decide +kernel
theorem dL_law_1568 : decode cL_law 1568 = .ok (.iaload, 1) := by decide +kernel
theorem dL_law_1569 : decode cL_law 1569 = .ok (.aload_n 0, 1) := by decide +kernel
theorem dL_law_1570 : decode cL_law 1570 = .ok (.iload 4, 2) := by decide +kernel
theorem dL_law_1572 : decode cL_law 1572 = .ok (.iconst 2, 1) := by decide +kernel
theorem dL_law_1573 : decode cL_law 1573 = .ok (.iadd, 1) := by decide +kernel
theorem dL_law_1574 : decode cL_law 1574 = .ok (.iaload, 1) := by decide +kernel
theorem dL_law_1575 : decode cL_law 1575 = .ok (.aload_n 0, 1) := by decide +kernel
theorem dL_law_1576 : decode cL_law 1576 = .ok (.iload 4, 2) := by decide +kernel
theorem dL_law_1578 : decode cL_law 1578 = .ok (.iconst 3, 1) := by decide +kernel
theorem dL_law_1579 : decode cL_law 1579 = .ok (.iadd, 1) := by decide +kernel
theorem dL_law_1580 : decode cL_law 1580 = .ok (.iaload, 1) := by decide +kernel
theorem dL_law_1581 : decode cL_law 1581 = .ok (.aload_n 0, 1) := by decide +kernel
theorem dL_law_1582 : decode cL_law 1582 = .ok (.iload 4, 2) := by decide +kernel
theorem dL_law_1584 : decode cL_law 1584 = .ok (.iconst 4, 1) := by decide +kernel
theorem dL_law_1585 : decode cL_law 1585 = .ok (.iadd, 1) := by decide +kernel
theorem dL_law_1586 : decode cL_law 1586 = .ok (.iaload, 1) := by decide +kernel
theorem dL_law_1587 : decode cL_law 1587 = .ok (.aload_n 0, 1) := by decide +kernel
theorem dL_law_1588 : decode cL_law 1588 = .ok (.iload 4, 2) := by decide +kernel
theorem dL_law_1590 : decode cL_law 1590 = .ok (.iconst 5, 1) := by decide +kernel
theorem dL_law_1591 : decode cL_law 1591 = .ok (.iadd, 1) := by decide +kernel
theorem dL_law_1592 : decode cL_law 1592 = .ok (.iaload, 1) := by decide +kernel
theorem dL_law_1593 : decode cL_law 1593 = .ok (.invokevirtual 245, 3) := by decide +kernel
theorem dL_law_1596 : decode cL_law 1596 = .ok (.istore 6, 2) := by decide +kernel
theorem dL_law_1598 : decode cL_law 1598 = .ok (.aload_n 2, 1) := by decide +kernel
theorem dL_law_1599 : decode cL_law 1599 = .ok (.invokevirtual 184, 3) := by decide +kernel
theorem dL_law_1602 : decode cL_law 1602 = .ok (.iload 5, 2) := by decide +kernel
theorem dL_law_1604 : decode cL_law 1604 = .ok (.if_icmp .eq 5, 3) := by decide +kernel
theorem dL_law_1607 : decode cL_law 1607 = .ok (.iconst 0, 1) := by decide +kernel
theorem dL_law_1608 : decode cL_law 1608 = .ok (.ireturn, 1) := by decide +kernel
theorem dL_law_1609 : decode cL_law 1609 = .ok (.iload 5, 2) := by decide +kernel
theorem dL_law_1611 : decode cL_law 1611 = .ok (.ifCond .ne 15, 3) := by decide +kernel
theorem dL_law_1614 : decode cL_law 1614 = .ok (.aload_n 3, 1) := by decide +kernel
theorem dL_law_1615 : decode cL_law 1615 = .ok (.iconst 0, 1) := by decide +kernel
theorem dL_law_1616 : decode cL_law 1616 = .ok (.laload, 1) := by decide +kernel
theorem dL_law_1617 : decode cL_law 1617 = .ok (.iload 6, 2) := by decide +kernel
theorem dL_law_1619 : decode cL_law 1619 = .ok (.i2l, 1) := by decide +kernel
theorem dL_law_1620 : decode cL_law 1620 = .ok (.lcmp, 1) := by decide +kernel
theorem dL_law_1621 : decode cL_law 1621 = .ok (.ifCond .eq 5, 3) := by decide +kernel
theorem dL_law_1624 : decode cL_law 1624 = .ok (.iconst 0, 1) := by decide +kernel
theorem dL_law_1625 : decode cL_law 1625 = .ok (.ireturn, 1) := by decide +kernel
theorem dL_law_1626 : decode cL_law 1626 = .ok (.goto 2129, 3) := by decide +kernel
theorem dL_law_1629 : decode cL_law 1629 = .ok (.aload_n 1, 1) := by decide +kernel
theorem dL_law_1630 : decode cL_law 1630 = .ok (.aload_n 0, 1) := by decide +kernel
theorem dL_law_1631 : decode cL_law 1631 = .ok (.iload 4, 2) := by decide +kernel
theorem dL_law_1633 : decode cL_law 1633 = .ok (.iconst 1, 1) := by decide +kernel
theorem dL_law_1634 : decode cL_law 1634 = .ok (.iadd, 1) := by decide +kernel
theorem dL_law_1635 : decode cL_law 1635 = .ok (.iaload, 1) := by decide +kernel
theorem dL_law_1636 : decode cL_law 1636 = .ok (.aload_n 3, 1) := by decide +kernel
theorem dL_law_1637 : decode cL_law 1637 = .ok (.invokestatic 246, 3) := by decide +kernel
theorem dL_law_1640 : decode cL_law 1640 = .ok (.istore 5, 2) := by decide +kernel
theorem dL_law_1642 : decode cL_law 1642 = .ok (.aload_n 2, 1) := by decide +kernel
theorem dL_law_1643 : decode cL_law 1643 = .ok (.aload_n 0, 1) := by decide +kernel
theorem dL_law_1644 : decode cL_law 1644 = .ok (.iload 4, 2) := by decide +kernel
theorem dL_law_1646 : decode cL_law 1646 = .ok (.iconst 1, 1) := by decide +kernel
theorem dL_law_1647 : decode cL_law 1647 = .ok (.iadd, 1) := by decide +kernel
theorem dL_law_1648 : decode cL_law 1648 = .ok (.iaload, 1) := by decide +kernel
theorem dL_law_1649 : decode cL_law 1649 = .ok (.invokevirtual 248, 3) := by decide +kernel
theorem dL_law_1652 : decode cL_law 1652 = .ok (.istore 6, 2) := by decide +kernel
theorem dL_law_1654 : decode cL_law 1654 = .ok (.aload_n 2, 1) := by decide +kernel
theorem dL_law_1655 : decode cL_law 1655 = .ok (.invokevirtual 184, 3) := by decide +kernel
theorem dL_law_1658 : decode cL_law 1658 = .ok (.iload 5, 2) := by decide +kernel
theorem dL_law_1660 : decode cL_law 1660 = .ok (.if_icmp .eq 5, 3) := by decide +kernel
theorem dL_law_1663 : decode cL_law 1663 = .ok (.iconst 0, 1) := by decide +kernel
theorem dL_law_1664 : decode cL_law 1664 = .ok (.ireturn, 1) := by decide +kernel
theorem dL_law_1665 : decode cL_law 1665 = .ok (.iload 5, 2) := by decide +kernel
theorem dL_law_1667 : decode cL_law 1667 = .ok (.ifCond .ne 22, 3) := by decide +kernel
theorem dL_law_1670 : decode cL_law 1670 = .ok (.aload_n 3, 1) := by decide +kernel
theorem dL_law_1671 : decode cL_law 1671 = .ok (.iconst 0, 1) := by decide +kernel
theorem dL_law_1672 : decode cL_law 1672 = .ok (.laload, 1) := by decide +kernel
theorem dL_law_1673 : decode cL_law 1673 = .ok (.iload 6, 2) := by decide +kernel
theorem dL_law_1675 : decode cL_law 1675 = .ok (.ifCond .eq 7, 3) := by decide +kernel
theorem dL_law_1678 : decode cL_law 1678 = .ok (.lconst 1, 1) := by decide +kernel
theorem dL_law_1679 : decode cL_law 1679 = .ok (.goto 4, 3) := by decide +kernel
theorem dL_law_1682 : decode cL_law 1682 = .ok (.lconst 0, 1) := by decide +kernel
theorem dL_law_1683 : decode cL_law 1683 = .ok (.lcmp, 1) := by decide +kernel
theorem dL_law_1684 : decode cL_law 1684 = .ok (.ifCond .eq 5, 3) := by decide +kernel
theorem dL_law_1687 : decode cL_law 1687 = .ok (.iconst 0, 1) := by decide +kernel
theorem dL_law_1688 : decode cL_law 1688 = .ok (.ireturn, 1) := by decide +kernel
theorem dL_law_1689 : decode cL_law 1689 = .ok (.goto 2066, 3) := by decide +kernel
theorem dL_law_1692 : decode cL_law 1692 = .ok (.aload_n 1, 1) := by decide +kernel
theorem dL_law_1693 : decode cL_law 1693 = .ok (.invokevirtual 249, 3) := by decide +kernel
theorem dL_law_1696 : decode cL_law 1696 = .ok (.aload_n 2, 1) := by decide +kernel
theorem dL_law_1697 : decode cL_law 1697 = .ok (.invokevirtual 252, 3) := by decide +kernel
theorem dL_law_1700 : decode cL_law 1700 = .ok (.if_icmp .eq 2055, 3) := by decide +kernel
theorem dL_law_1703 : decode cL_law 1703 = .ok (.iconst 0, 1) := by decide +kernel
theorem dL_law_1704 : decode cL_law 1704 = .ok (.ireturn, 1) := by decide +kernel
theorem dL_law_1705 : decode cL_law 1705 = .ok (.aload_n 1, 1) := by decide +kernel
theorem dL_law_1706 : decode cL_law 1706 = .ok (.aload_n 0, 1) := by decide +kernel
theorem dL_law_1707 : decode cL_law 1707 = .ok (.iload 4, 2) := by decide +kernel
theorem dL_law_1709 : decode cL_law 1709 = .ok (.iconst 1, 1) := by decide +kernel
theorem dL_law_1710 : decode cL_law 1710 = .ok (.iadd, 1) := by decide +kernel
theorem dL_law_1711 : decode cL_law 1711 = .ok (.iaload, 1) := by decide +kernel
theorem dL_law_1712 : decode cL_law 1712 = .ok (.aload_n 0, 1) := by decide +kernel
theorem dL_law_1713 : decode cL_law 1713 = .ok (.iload 4, 2) := by decide +kernel
theorem dL_law_1715 : decode cL_law 1715 = .ok (.iconst 2, 1) := by decide +kernel
theorem dL_law_1716 : decode cL_law 1716 = .ok (.iadd, 1) := by decide +kernel
theorem dL_law_1717 : decode cL_law 1717 = .ok (.iaload, 1) := by decide +kernel
theorem dL_law_1718 : decode cL_law 1718 = .ok (.aload_n 0, 1) := by decide +kernel
theorem dL_law_1719 : decode cL_law 1719 = .ok (.iload 4, 2) := by decide +kernel
theorem dL_law_1721 : decode cL_law 1721 = .ok (.iconst 3, 1) := by decide +kernel
theorem dL_law_1722 : decode cL_law 1722 = .ok (.iadd, 1) := by decide +kernel
theorem dL_law_1723 : decode cL_law 1723 = .ok (.iaload, 1) := by decide +kernel
theorem dL_law_1724 : decode cL_law 1724 = .ok (.ifCond .eq 7, 3) := by decide +kernel
theorem dL_law_1727 : decode cL_law 1727 = .ok (.iconst 1, 1) := by decide +kernel
theorem dL_law_1728 : decode cL_law 1728 = .ok (.goto 4, 3) := by decide +kernel
theorem dL_law_1731 : decode cL_law 1731 = .ok (.iconst 0, 1) := by decide +kernel
theorem dL_law_1732 : decode cL_law 1732 = .ok (.aload_n 3, 1) := by decide +kernel
theorem dL_law_1733 : decode cL_law 1733 = .ok (.invokestatic 253, 3) := by decide +kernel
theorem dL_law_1736 : decode cL_law 1736 = .ok (.istore 5, 2) := by decide +kernel
theorem dL_law_1738 : decode cL_law 1738 = .ok (.aload_n 2, 1) := by decide +kernel
theorem dL_law_1739 : decode cL_law 1739 = .ok (.aload_n 0, 1) := by decide +kernel
theorem dL_law_1740 : decode cL_law 1740 = .ok (.iload 4, 2) := by decide +kernel
theorem dL_law_1742 : decode cL_law 1742 = .ok (.iconst 1, 1) := by decide +kernel
theorem dL_law_1743 : decode cL_law 1743 = .ok (.iadd, 1) := by decide +kernel
theorem dL_law_1744 : decode cL_law 1744 = .ok (.iaload, 1) := by decide +kernel
theorem dL_law_1745 : decode cL_law 1745 = .ok (.aload_n 0, 1) := by decide +kernel
theorem dL_law_1746 : decode cL_law 1746 = .ok (.iload 4, 2) := by decide +kernel
theorem dL_law_1748 : decode cL_law 1748 = .ok (.iconst 2, 1) := by decide +kernel
theorem dL_law_1749 : decode cL_law 1749 = .ok (.iadd, 1) := by decide +kernel
theorem dL_law_1750 : decode cL_law 1750 = .ok (.iaload, 1) := by decide +kernel
theorem dL_law_1751 : decode cL_law 1751 = .ok (.aload_n 0, 1) := by decide +kernel
theorem dL_law_1752 : decode cL_law 1752 = .ok (.iload 4, 2) := by decide +kernel
theorem dL_law_1754 : decode cL_law 1754 = .ok (.iconst 3, 1) := by decide +kernel
theorem dL_law_1755 : decode cL_law 1755 = .ok (.iadd, 1) := by decide +kernel
theorem dL_law_1756 : decode cL_law 1756 = .ok (.iaload, 1) := by decide +kernel
theorem dL_law_1757 : decode cL_law 1757 = .ok (.ifCond .eq 7, 3) := by decide +kernel
theorem dL_law_1760 : decode cL_law 1760 = .ok (.iconst 1, 1) := by decide +kernel
theorem dL_law_1761 : decode cL_law 1761 = .ok (.goto 4, 3) := by decide +kernel
theorem dL_law_1764 : decode cL_law 1764 = .ok (.iconst 0, 1) := by decide +kernel
theorem dL_law_1765 : decode cL_law 1765 = .ok (.invokevirtual 256, 3) := by decide +kernel
theorem dL_law_1768 : decode cL_law 1768 = .ok (.istore 6, 2) := by decide +kernel
theorem dL_law_1770 : decode cL_law 1770 = .ok (.aload_n 2, 1) := by decide +kernel
theorem dL_law_1771 : decode cL_law 1771 = .ok (.invokevirtual 184, 3) := by decide +kernel
theorem dL_law_1774 : decode cL_law 1774 = .ok (.iload 5, 2) := by decide +kernel
theorem dL_law_1776 : decode cL_law 1776 = .ok (.if_icmp .eq 5, 3) := by decide +kernel
theorem dL_law_1779 : decode cL_law 1779 = .ok (.iconst 0, 1) := by decide +kernel
theorem dL_law_1780 : decode cL_law 1780 = .ok (.ireturn, 1) := by decide +kernel
theorem dL_law_1781 : decode cL_law 1781 = .ok (.iload 5, 2) := by decide +kernel
theorem dL_law_1783 : decode cL_law 1783 = .ok (.ifCond .ne 22, 3) := by decide +kernel
theorem dL_law_1786 : decode cL_law 1786 = .ok (.aload_n 3, 1) := by decide +kernel
theorem dL_law_1787 : decode cL_law 1787 = .ok (.iconst 0, 1) := by decide +kernel
theorem dL_law_1788 : decode cL_law 1788 = .ok (.laload, 1) := by decide +kernel
theorem dL_law_1789 : decode cL_law 1789 = .ok (.iload 6, 2) := by decide +kernel
theorem dL_law_1791 : decode cL_law 1791 = .ok (.ifCond .eq 7, 3) := by decide +kernel
theorem dL_law_1794 : decode cL_law 1794 = .ok (.lconst 1, 1) := by decide +kernel
theorem dL_law_1795 : decode cL_law 1795 = .ok (.goto 4, 3) := by decide +kernel
theorem dL_law_1798 : decode cL_law 1798 = .ok (.lconst 0, 1) := by decide +kernel
theorem dL_law_1799 : decode cL_law 1799 = .ok (.lcmp, 1) := by decide +kernel
theorem dL_law_1800 : decode cL_law 1800 = .ok (.ifCond .eq 5, 3) := by decide +kernel
theorem dL_law_1803 : decode cL_law 1803 = .ok (.iconst 0, 1) := by decide +kernel
theorem dL_law_1804 : decode cL_law 1804 = .ok (.ireturn, 1) := by decide +kernel
theorem dL_law_1805 : decode cL_law 1805 = .ok (.goto 1950, 3) := by decide +kernel
theorem dL_law_1808 : decode cL_law 1808 = .ok (.aload_n 1, 1) := by decide +kernel
theorem dL_law_1809 : decode cL_law 1809 = .ok (.aload_n 0, 1) := by decide +kernel
theorem dL_law_1810 : decode cL_law 1810 = .ok (.iload 4, 2) := by decide +kernel
theorem dL_law_1812 : decode cL_law 1812 = .ok (.iconst 1, 1) := by decide +kernel
theorem dL_law_1813 : decode cL_law 1813 = .ok (.iadd, 1) := by decide +kernel
theorem dL_law_1814 : decode cL_law 1814 = .ok (.iaload, 1) := by decide +kernel
theorem dL_law_1815 : decode cL_law 1815 = .ok (.aload_n 0, 1) := by decide +kernel
theorem dL_law_1816 : decode cL_law 1816 = .ok (.iload 4, 2) := by decide +kernel
theorem dL_law_1818 : decode cL_law 1818 = .ok (.iconst 2, 1) := by decide +kernel
theorem dL_law_1819 : decode cL_law 1819 = .ok (.iadd, 1) := by decide +kernel
theorem dL_law_1820 : decode cL_law 1820 = .ok (.iaload, 1) := by decide +kernel
theorem dL_law_1821 : decode cL_law 1821 = .ok (.aload_n 0, 1) := by decide +kernel
theorem dL_law_1822 : decode cL_law 1822 = .ok (.iload 4, 2) := by decide +kernel
theorem dL_law_1824 : decode cL_law 1824 = .ok (.iconst 3, 1) := by decide +kernel
theorem dL_law_1825 : decode cL_law 1825 = .ok (.iadd, 1) := by decide +kernel
theorem dL_law_1826 : decode cL_law 1826 = .ok (.iaload, 1) := by decide +kernel
theorem dL_law_1827 : decode cL_law 1827 = .ok (.aload_n 3, 1) := by decide +kernel
theorem dL_law_1828 : decode cL_law 1828 = .ok (.invokestatic 257, 3) := by decide +kernel
theorem dL_law_1831 : decode cL_law 1831 = .ok (.istore 5, 2) := by decide +kernel
theorem dL_law_1833 : decode cL_law 1833 = .ok (.aload_n 2, 1) := by decide +kernel
theorem dL_law_1834 : decode cL_law 1834 = .ok (.aload_n 0, 1) := by decide +kernel
theorem dL_law_1835 : decode cL_law 1835 = .ok (.iload 4, 2) := by decide +kernel
theorem dL_law_1837 : decode cL_law 1837 = .ok (.iconst 1, 1) := by decide +kernel
theorem dL_law_1838 : decode cL_law 1838 = .ok (.iadd, 1) := by decide +kernel
theorem dL_law_1839 : decode cL_law 1839 = .ok (.iaload, 1) := by decide +kernel
theorem dL_law_1840 : decode cL_law 1840 = .ok (.aload_n 0, 1) := by decide +kernel
theorem dL_law_1841 : decode cL_law 1841 = .ok (.iload 4, 2) := by decide +kernel
theorem dL_law_1843 : decode cL_law 1843 = .ok (.iconst 2, 1) := by decide +kernel
theorem dL_law_1844 : decode cL_law 1844 = .ok (.iadd, 1) := by decide +kernel
theorem dL_law_1845 : decode cL_law 1845 = .ok (.iaload, 1) := by decide +kernel
theorem dL_law_1846 : decode cL_law 1846 = .ok (.aload_n 0, 1) := by decide +kernel
theorem dL_law_1847 : decode cL_law 1847 = .ok (.iload 4, 2) := by decide +kernel
theorem dL_law_1849 : decode cL_law 1849 = .ok (.iconst 3, 1) := by decide +kernel
theorem dL_law_1850 : decode cL_law 1850 = .ok (.iadd, 1) := by decide +kernel
theorem dL_law_1851 : decode cL_law 1851 = .ok (.iaload, 1) := by decide +kernel
theorem dL_law_1852 : decode cL_law 1852 = .ok (.invokevirtual 259, 3) := by decide +kernel
theorem dL_law_1855 : decode cL_law 1855 = .ok (.istore 6, 2) := by decide +kernel
theorem dL_law_1857 : decode cL_law 1857 = .ok (.aload_n 2, 1) := by decide +kernel
theorem dL_law_1858 : decode cL_law 1858 = .ok (.invokevirtual 184, 3) := by decide +kernel
theorem dL_law_1861 : decode cL_law 1861 = .ok (.iload 5, 2) := by decide +kernel
theorem dL_law_1863 : decode cL_law 1863 = .ok (.if_icmp .eq 5, 3) := by decide +kernel
theorem dL_law_1866 : decode cL_law 1866 = .ok (.iconst 0, 1) := by decide +kernel
theorem dL_law_1867 : decode cL_law 1867 = .ok (.ireturn, 1) := by decide +kernel
theorem dL_law_1868 : decode cL_law 1868 = .ok (.iload 5, 2) := by decide +kernel
theorem dL_law_1870 : decode cL_law 1870 = .ok (.ifCond .ne 15, 3) := by decide +kernel
theorem dL_law_1873 : decode cL_law 1873 = .ok (.aload_n 3, 1) := by decide +kernel
theorem dL_law_1874 : decode cL_law 1874 = .ok (.iconst 0, 1) := by decide +kernel
theorem dL_law_1875 : decode cL_law 1875 = .ok (.laload, 1) := by decide +kernel
theorem dL_law_1876 : decode cL_law 1876 = .ok (.iload 6, 2) := by decide +kernel
theorem dL_law_1878 : decode cL_law 1878 = .ok (.i2l, 1) := by decide +kernel
theorem dL_law_1879 : decode cL_law 1879 = .ok (.lcmp, 1) := by decide +kernel
theorem dL_law_1880 : decode cL_law 1880 = .ok (.ifCond .eq 5, 3) := by decide +kernel
theorem dL_law_1883 : decode cL_law 1883 = .ok (.iconst 0, 1) := by decide +kernel
theorem dL_law_1884 : decode cL_law 1884 = .ok (.ireturn, 1) := by decide +kernel
theorem dL_law_1885 : decode cL_law 1885 = .ok (.goto 1870, 3) := by decide +kernel
theorem dL_law_1888 : decode cL_law 1888 = .ok (.aload_n 1, 1) := by decide +kernel
theorem dL_law_1889 : decode cL_law 1889 = .ok (.aload_n 0, 1) := by decide +kernel
theorem dL_law_1890 : decode cL_law 1890 = .ok (.iload 4, 2) := by decide +kernel
theorem dL_law_1892 : decode cL_law 1892 = .ok (.iconst 1, 1) := by decide +kernel
theorem dL_law_1893 : decode cL_law 1893 = .ok (.iadd, 1) := by decide +kernel
theorem dL_law_1894 : decode cL_law 1894 = .ok (.iaload, 1) := by decide +kernel
theorem dL_law_1895 : decode cL_law 1895 = .ok (.aload_n 3, 1) := by decide +kernel
theorem dL_law_1896 : decode cL_law 1896 = .ok (.invokestatic 260, 3) := by decide +kernel
theorem dL_law_1899 : decode cL_law 1899 = .ok (.istore 5, 2) := by decide +kernel
theorem dL_law_1901 : decode cL_law 1901 = .ok (.aload_n 2, 1) := by decide +kernel
theorem dL_law_1902 : decode cL_law 1902 = .ok (.aload_n 0, 1) := by decide +kernel
theorem dL_law_1903 : decode cL_law 1903 = .ok (.iload 4, 2) := by decide +kernel
theorem dL_law_1905 : decode cL_law 1905 = .ok (.iconst 1, 1) := by decide +kernel
theorem dL_law_1906 : decode cL_law 1906 = .ok (.iadd, 1) := by decide +kernel
theorem dL_law_1907 : decode cL_law 1907 = .ok (.iaload, 1) := by decide +kernel
theorem dL_law_1908 : decode cL_law 1908 = .ok (.invokevirtual 262, 3) := by decide +kernel
theorem dL_law_1911 : decode cL_law 1911 = .ok (.istore 6, 2) := by decide +kernel
theorem dL_law_1913 : decode cL_law 1913 = .ok (.aload_n 2, 1) := by decide +kernel
theorem dL_law_1914 : decode cL_law 1914 = .ok (.invokevirtual 184, 3) := by decide +kernel
theorem dL_law_1917 : decode cL_law 1917 = .ok (.iload 5, 2) := by decide +kernel
theorem dL_law_1919 : decode cL_law 1919 = .ok (.if_icmp .eq 5, 3) := by decide +kernel
theorem dL_law_1922 : decode cL_law 1922 = .ok (.iconst 0, 1) := by decide +kernel
theorem dL_law_1923 : decode cL_law 1923 = .ok (.ireturn, 1) := by decide +kernel
theorem dL_law_1924 : decode cL_law 1924 = .ok (.iload 5, 2) := by decide +kernel
theorem dL_law_1926 : decode cL_law 1926 = .ok (.ifCond .ne 15, 3) := by decide +kernel
theorem dL_law_1929 : decode cL_law 1929 = .ok (.aload_n 3, 1) := by decide +kernel
theorem dL_law_1930 : decode cL_law 1930 = .ok (.iconst 0, 1) := by decide +kernel
theorem dL_law_1931 : decode cL_law 1931 = .ok (.laload, 1) := by decide +kernel
theorem dL_law_1932 : decode cL_law 1932 = .ok (.iload 6, 2) := by decide +kernel
theorem dL_law_1934 : decode cL_law 1934 = .ok (.i2l, 1) := by decide +kernel
theorem dL_law_1935 : decode cL_law 1935 = .ok (.lcmp, 1) := by decide +kernel
theorem dL_law_1936 : decode cL_law 1936 = .ok (.ifCond .eq 5, 3) := by decide +kernel
theorem dL_law_1939 : decode cL_law 1939 = .ok (.iconst 0, 1) := by decide +kernel
theorem dL_law_1940 : decode cL_law 1940 = .ok (.ireturn, 1) := by decide +kernel
theorem dL_law_1941 : decode cL_law 1941 = .ok (.goto 1814, 3) := by decide +kernel
theorem dL_law_1944 : decode cL_law 1944 = .ok (.aload_n 1, 1) := by decide +kernel
theorem dL_law_1945 : decode cL_law 1945 = .ok (.invokevirtual 263, 3) := by decide +kernel
theorem dL_law_1948 : decode cL_law 1948 = .ok (.aload_n 2, 1) := by decide +kernel
theorem dL_law_1949 : decode cL_law 1949 = .ok (.invokevirtual 266, 3) := by decide +kernel
theorem dL_law_1952 : decode cL_law 1952 = .ok (.if_icmp .eq 1803, 3) := by decide +kernel
theorem dL_law_1955 : decode cL_law 1955 = .ok (.iconst 0, 1) := by decide +kernel
theorem dL_law_1956 : decode cL_law 1956 = .ok (.ireturn, 1) := by decide +kernel
theorem dL_law_1957 : decode cL_law 1957 = .ok (.aload_n 1, 1) := by decide +kernel
theorem dL_law_1958 : decode cL_law 1958 = .ok (.aload_n 0, 1) := by decide +kernel
theorem dL_law_1959 : decode cL_law 1959 = .ok (.iload 4, 2) := by decide +kernel
theorem dL_law_1961 : decode cL_law 1961 = .ok (.iconst 1, 1) := by decide +kernel
theorem dL_law_1962 : decode cL_law 1962 = .ok (.iadd, 1) := by decide +kernel
theorem dL_law_1963 : decode cL_law 1963 = .ok (.iaload, 1) := by decide +kernel
theorem dL_law_1964 : decode cL_law 1964 = .ok (.aload_n 3, 1) := by decide +kernel
theorem dL_law_1965 : decode cL_law 1965 = .ok (.invokestatic 267, 3) := by decide +kernel
theorem dL_law_1968 : decode cL_law 1968 = .ok (.istore 5, 2) := by decide +kernel
theorem dL_law_1970 : decode cL_law 1970 = .ok (.aload_n 2, 1) := by decide +kernel
theorem dL_law_1971 : decode cL_law 1971 = .ok (.aload_n 0, 1) := by decide +kernel
theorem dL_law_1972 : decode cL_law 1972 = .ok (.iload 4, 2) := by decide +kernel
theorem dL_law_1974 : decode cL_law 1974 = .ok (.iconst 1, 1) := by decide +kernel
theorem dL_law_1975 : decode cL_law 1975 = .ok (.iadd, 1) := by decide +kernel
theorem dL_law_1976 : decode cL_law 1976 = .ok (.iaload, 1) := by decide +kernel
theorem dL_law_1977 : decode cL_law 1977 = .ok (.invokevirtual 269, 3) := by decide +kernel
theorem dL_law_1980 : decode cL_law 1980 = .ok (.istore 6, 2) := by decide +kernel
theorem dL_law_1982 : decode cL_law 1982 = .ok (.aload_n 2, 1) := by decide +kernel
theorem dL_law_1983 : decode cL_law 1983 = .ok (.invokevirtual 184, 3) := by decide +kernel
theorem dL_law_1986 : decode cL_law 1986 = .ok (.iload 5, 2) := by decide +kernel
theorem dL_law_1988 : decode cL_law 1988 = .ok (.if_icmp .eq 5, 3) := by decide +kernel
theorem dL_law_1991 : decode cL_law 1991 = .ok (.iconst 0, 1) := by decide +kernel
theorem dL_law_1992 : decode cL_law 1992 = .ok (.ireturn, 1) := by decide +kernel
theorem dL_law_1993 : decode cL_law 1993 = .ok (.iload 5, 2) := by decide +kernel
theorem dL_law_1995 : decode cL_law 1995 = .ok (.ifCond .ne 15, 3) := by decide +kernel
theorem dL_law_1998 : decode cL_law 1998 = .ok (.aload_n 3, 1) := by decide +kernel
theorem dL_law_1999 : decode cL_law 1999 = .ok (.iconst 0, 1) := by decide +kernel
theorem dL_law_2000 : decode cL_law 2000 = .ok (.laload, 1) := by decide +kernel
theorem dL_law_2001 : decode cL_law 2001 = .ok (.iload 6, 2) := by decide +kernel
theorem dL_law_2003 : decode cL_law 2003 = .ok (.i2l, 1) := by decide +kernel
theorem dL_law_2004 : decode cL_law 2004 = .ok (.lcmp, 1) := by decide +kernel
theorem dL_law_2005 : decode cL_law 2005 = .ok (.ifCond .eq 5, 3) := by decide +kernel
theorem dL_law_2008 : decode cL_law 2008 = .ok (.iconst 0, 1) := by decide +kernel
theorem dL_law_2009 : decode cL_law 2009 = .ok (.ireturn, 1) := by decide +kernel
theorem dL_law_2010 : decode cL_law 2010 = .ok (.goto 1745, 3) := by decide +kernel
theorem dL_law_2013 : decode cL_law 2013 = .ok (.aload_n 1, 1) := by decide +kernel
theorem dL_law_2014 : decode cL_law 2014 = .ok (.aload_n 0, 1) := by decide +kernel
theorem dL_law_2015 : decode cL_law 2015 = .ok (.iload 4, 2) := by decide +kernel
theorem dL_law_2017 : decode cL_law 2017 = .ok (.iconst 1, 1) := by decide +kernel
theorem dL_law_2018 : decode cL_law 2018 = .ok (.iadd, 1) := by decide +kernel
theorem dL_law_2019 : decode cL_law 2019 = .ok (.iaload, 1) := by decide +kernel
theorem dL_law_2020 : decode cL_law 2020 = .ok (.aload_n 3, 1) := by decide +kernel
theorem dL_law_2021 : decode cL_law 2021 = .ok (.invokestatic 270, 3) := by decide +kernel
theorem dL_law_2024 : decode cL_law 2024 = .ok (.istore 5, 2) := by decide +kernel
theorem dL_law_2026 : decode cL_law 2026 = .ok (.aload_n 2, 1) := by decide +kernel
theorem dL_law_2027 : decode cL_law 2027 = .ok (.aload_n 0, 1) := by decide +kernel
theorem dL_law_2028 : decode cL_law 2028 = .ok (.iload 4, 2) := by decide +kernel
theorem dL_law_2030 : decode cL_law 2030 = .ok (.iconst 1, 1) := by decide +kernel
theorem dL_law_2031 : decode cL_law 2031 = .ok (.iadd, 1) := by decide +kernel
theorem dL_law_2032 : decode cL_law 2032 = .ok (.iaload, 1) := by decide +kernel
theorem dL_law_2033 : decode cL_law 2033 = .ok (.invokevirtual 272, 3) := by decide +kernel
theorem dL_law_2036 : decode cL_law 2036 = .ok (.istore 6, 2) := by decide +kernel
theorem dL_law_2038 : decode cL_law 2038 = .ok (.aload_n 2, 1) := by decide +kernel
theorem dL_law_2039 : decode cL_law 2039 = .ok (.invokevirtual 184, 3) := by decide +kernel
theorem dL_law_2042 : decode cL_law 2042 = .ok (.iload 5, 2) := by decide +kernel
theorem dL_law_2044 : decode cL_law 2044 = .ok (.if_icmp .eq 5, 3) := by decide +kernel
theorem dL_law_2047 : decode cL_law 2047 = .ok (.iconst 0, 1) := by decide +kernel
theorem dL_law_2048 : decode cL_law 2048 = .ok (.ireturn, 1) := by decide +kernel
theorem dL_law_2049 : decode cL_law 2049 = .ok (.iload 5, 2) := by decide +kernel
theorem dL_law_2051 : decode cL_law 2051 = .ok (.ifCond .ne 15, 3) := by decide +kernel
theorem dL_law_2054 : decode cL_law 2054 = .ok (.aload_n 3, 1) := by decide +kernel
theorem dL_law_2055 : decode cL_law 2055 = .ok (.iconst 0, 1) := by decide +kernel
theorem dL_law_2056 : decode cL_law 2056 = .ok (.laload, 1) := by decide +kernel
theorem dL_law_2057 : decode cL_law 2057 = .ok (.iload 6, 2) := by decide +kernel
theorem dL_law_2059 : decode cL_law 2059 = .ok (.i2l, 1) := by decide +kernel
theorem dL_law_2060 : decode cL_law 2060 = .ok (.lcmp, 1) := by decide +kernel
theorem dL_law_2061 : decode cL_law 2061 = .ok (.ifCond .eq 5, 3) := by decide +kernel
theorem dL_law_2064 : decode cL_law 2064 = .ok (.iconst 0, 1) := by decide +kernel
theorem dL_law_2065 : decode cL_law 2065 = .ok (.ireturn, 1) := by decide +kernel
theorem dL_law_2066 : decode cL_law 2066 = .ok (.goto 1689, 3) := by decide +kernel
theorem dL_law_2069 : decode cL_law 2069 = .ok (.aload_n 1, 1) := by decide +kernel
theorem dL_law_2070 : decode cL_law 2070 = .ok (.invokevirtual 273, 3) := by decide +kernel
theorem dL_law_2073 : decode cL_law 2073 = .ok (.aload_n 2, 1) := by decide +kernel
theorem dL_law_2074 : decode cL_law 2074 = .ok (.invokevirtual 276, 3) := by decide +kernel
theorem dL_law_2077 : decode cL_law 2077 = .ok (.if_icmp .eq 1678, 3) := by decide +kernel
theorem dL_law_2080 : decode cL_law 2080 = .ok (.iconst 0, 1) := by decide +kernel
theorem dL_law_2081 : decode cL_law 2081 = .ok (.ireturn, 1) := by decide +kernel
theorem dL_law_2082 : decode cL_law 2082 = .ok (.aload_n 1, 1) := by decide +kernel
theorem dL_law_2083 : decode cL_law 2083 = .ok (.aload_n 0, 1) := by decide +kernel
theorem dL_law_2084 : decode cL_law 2084 = .ok (.iload 4, 2) := by decide +kernel
theorem dL_law_2086 : decode cL_law 2086 = .ok (.iconst 1, 1) := by decide +kernel
theorem dL_law_2087 : decode cL_law 2087 = .ok (.iadd, 1) := by decide +kernel
theorem dL_law_2088 : decode cL_law 2088 = .ok (.iaload, 1) := by decide +kernel
theorem dL_law_2089 : decode cL_law 2089 = .ok (.aload_n 3, 1) := by decide +kernel
theorem dL_law_2090 : decode cL_law 2090 = .ok (.invokestatic 277, 3) := by decide +kernel
theorem dL_law_2093 : decode cL_law 2093 = .ok (.istore 5, 2) := by decide +kernel
theorem dL_law_2095 : decode cL_law 2095 = .ok (.aload_n 2, 1) := by decide +kernel
theorem dL_law_2096 : decode cL_law 2096 = .ok (.aload_n 0, 1) := by decide +kernel
theorem dL_law_2097 : decode cL_law 2097 = .ok (.iload 4, 2) := by decide +kernel
theorem dL_law_2099 : decode cL_law 2099 = .ok (.iconst 1, 1) := by decide +kernel
theorem dL_law_2100 : decode cL_law 2100 = .ok (.iadd, 1) := by decide +kernel
theorem dL_law_2101 : decode cL_law 2101 = .ok (.iaload, 1) := by decide +kernel
theorem dL_law_2102 : decode cL_law 2102 = .ok (.invokevirtual 279, 3) := by decide +kernel
theorem dL_law_2105 : decode cL_law 2105 = .ok (.istore 6, 2) := by decide +kernel
theorem dL_law_2107 : decode cL_law 2107 = .ok (.aload_n 2, 1) := by decide +kernel
theorem dL_law_2108 : decode cL_law 2108 = .ok (.invokevirtual 184, 3) := by decide +kernel
theorem dL_law_2111 : decode cL_law 2111 = .ok (.iload 5, 2) := by decide +kernel
theorem dL_law_2113 : decode cL_law 2113 = .ok (.if_icmp .eq 5, 3) := by decide +kernel
theorem dL_law_2116 : decode cL_law 2116 = .ok (.iconst 0, 1) := by decide +kernel
theorem dL_law_2117 : decode cL_law 2117 = .ok (.ireturn, 1) := by decide +kernel
theorem dL_law_2118 : decode cL_law 2118 = .ok (.iload 5, 2) := by decide +kernel
theorem dL_law_2120 : decode cL_law 2120 = .ok (.ifCond .ne 15, 3) := by decide +kernel
theorem dL_law_2123 : decode cL_law 2123 = .ok (.aload_n 3, 1) := by decide +kernel
theorem dL_law_2124 : decode cL_law 2124 = .ok (.iconst 0, 1) := by decide +kernel
theorem dL_law_2125 : decode cL_law 2125 = .ok (.laload, 1) := by decide +kernel
theorem dL_law_2126 : decode cL_law 2126 = .ok (.iload 6, 2) := by decide +kernel
theorem dL_law_2128 : decode cL_law 2128 = .ok (.i2l, 1) := by decide +kernel
theorem dL_law_2129 : decode cL_law 2129 = .ok (.lcmp, 1) := by decide +kernel
theorem dL_law_2130 : decode cL_law 2130 = .ok (.ifCond .eq 5, 3) := by decide +kernel
theorem dL_law_2133 : decode cL_law 2133 = .ok (.iconst 0, 1) := by decide +kernel
theorem dL_law_2134 : decode cL_law 2134 = .ok (.ireturn, 1) := by decide +kernel
theorem dL_law_2135 : decode cL_law 2135 = .ok (.goto 1620, 3) := by decide +kernel
theorem dL_law_2138 : decode cL_law 2138 = .ok (.aload_n 1, 1) := by decide +kernel
theorem dL_law_2139 : decode cL_law 2139 = .ok (.invokevirtual 280, 3) := by decide +kernel
theorem dL_law_2142 : decode cL_law 2142 = .ok (.aload_n 2, 1) := by decide +kernel
theorem dL_law_2143 : decode cL_law 2143 = .ok (.invokevirtual 283, 3) := by decide +kernel
theorem dL_law_2146 : decode cL_law 2146 = .ok (.if_icmp .eq 1609, 3) := by decide +kernel
theorem dL_law_2149 : decode cL_law 2149 = .ok (.iconst 0, 1) := by decide +kernel
theorem dL_law_2150 : decode cL_law 2150 = .ok (.ireturn, 1) := by decide +kernel
theorem dL_law_2151 : decode cL_law 2151 = .ok (.aload_n 1, 1) := by decide +kernel
theorem dL_law_2152 : decode cL_law 2152 = .ok (.aload_n 0, 1) := by decide +kernel
theorem dL_law_2153 : decode cL_law 2153 = .ok (.iload 4, 2) := by decide +kernel
theorem dL_law_2155 : decode cL_law 2155 = .ok (.iconst 1, 1) := by decide +kernel
theorem dL_law_2156 : decode cL_law 2156 = .ok (.iadd, 1) := by decide +kernel
theorem dL_law_2157 : decode cL_law 2157 = .ok (.iaload, 1) := by decide +kernel
theorem dL_law_2158 : decode cL_law 2158 = .ok (.aload_n 3, 1) := by decide +kernel
theorem dL_law_2159 : decode cL_law 2159 = .ok (.invokestatic 284, 3) := by decide +kernel
theorem dL_law_2162 : decode cL_law 2162 = .ok (.istore 5, 2) := by decide +kernel
theorem dL_law_2164 : decode cL_law 2164 = .ok (.aload_n 2, 1) := by decide +kernel
theorem dL_law_2165 : decode cL_law 2165 = .ok (.aload_n 0, 1) := by decide +kernel
theorem dL_law_2166 : decode cL_law 2166 = .ok (.iload 4, 2) := by decide +kernel
theorem dL_law_2168 : decode cL_law 2168 = .ok (.iconst 1, 1) := by decide +kernel
theorem dL_law_2169 : decode cL_law 2169 = .ok (.iadd, 1) := by decide +kernel
theorem dL_law_2170 : decode cL_law 2170 = .ok (.iaload, 1) := by decide +kernel
theorem dL_law_2171 : decode cL_law 2171 = .ok (.invokevirtual 286, 3) := by decide +kernel
theorem dL_law_2174 : decode cL_law 2174 = .ok (.istore 6, 2) := by decide +kernel
theorem dL_law_2176 : decode cL_law 2176 = .ok (.aload_n 2, 1) := by decide +kernel
theorem dL_law_2177 : decode cL_law 2177 = .ok (.invokevirtual 184, 3) := by decide +kernel
theorem dL_law_2180 : decode cL_law 2180 = .ok (.iload 5, 2) := by decide +kernel
theorem dL_law_2182 : decode cL_law 2182 = .ok (.if_icmp .eq 5, 3) := by decide +kernel
theorem dL_law_2185 : decode cL_law 2185 = .ok (.iconst 0, 1) := by decide +kernel
theorem dL_law_2186 : decode cL_law 2186 = .ok (.ireturn, 1) := by decide +kernel
theorem dL_law_2187 : decode cL_law 2187 = .ok (.iload 5, 2) := by decide +kernel
theorem dL_law_2189 : decode cL_law 2189 = .ok (.ifCond .ne 15, 3) := by decide +kernel
theorem dL_law_2192 : decode cL_law 2192 = .ok (.aload_n 3, 1) := by decide +kernel
theorem dL_law_2193 : decode cL_law 2193 = .ok (.iconst 0, 1) := by decide +kernel
theorem dL_law_2194 : decode cL_law 2194 = .ok (.laload, 1) := by decide +kernel
theorem dL_law_2195 : decode cL_law 2195 = .ok (.iload 6, 2) := by decide +kernel
theorem dL_law_2197 : decode cL_law 2197 = .ok (.i2l, 1) := by decide +kernel
theorem dL_law_2198 : decode cL_law 2198 = .ok (.lcmp, 1) := by decide +kernel
theorem dL_law_2199 : decode cL_law 2199 = .ok (.ifCond .eq 5, 3) := by decide +kernel
theorem dL_law_2202 : decode cL_law 2202 = .ok (.iconst 0, 1) := by decide +kernel
theorem dL_law_2203 : decode cL_law 2203 = .ok (.ireturn, 1) := by decide +kernel
theorem dL_law_2204 : decode cL_law 2204 = .ok (.goto 1551, 3) := by decide +kernel
theorem dL_law_2207 : decode cL_law 2207 = .ok (.aload_n 1, 1) := by decide +kernel
theorem dL_law_2208 : decode cL_law 2208 = .ok (.aload_n 0, 1) := by decide +kernel
theorem dL_law_2209 : decode cL_law 2209 = .ok (.iload 4, 2) := by decide +kernel
theorem dL_law_2211 : decode cL_law 2211 = .ok (.iconst 1, 1) := by decide +kernel
theorem dL_law_2212 : decode cL_law 2212 = .ok (.iadd, 1) := by decide +kernel
theorem dL_law_2213 : decode cL_law 2213 = .ok (.iaload, 1) := by decide +kernel
theorem dL_law_2214 : decode cL_law 2214 = .ok (.aload_n 3, 1) := by decide +kernel
theorem dL_law_2215 : decode cL_law 2215 = .ok (.invokestatic 287, 3) := by decide +kernel
theorem dL_law_2218 : decode cL_law 2218 = .ok (.istore 5, 2) := by decide +kernel
theorem dL_law_2220 : decode cL_law 2220 = .ok (.aload_n 2, 1) := by decide +kernel
theorem dL_law_2221 : decode cL_law 2221 = .ok (.aload_n 0, 1) := by decide +kernel
theorem dL_law_2222 : decode cL_law 2222 = .ok (.iload 4, 2) := by decide +kernel
theorem dL_law_2224 : decode cL_law 2224 = .ok (.iconst 1, 1) := by decide +kernel
theorem dL_law_2225 : decode cL_law 2225 = .ok (.iadd, 1) := by decide +kernel
theorem dL_law_2226 : decode cL_law 2226 = .ok (.iaload, 1) := by decide +kernel
theorem dL_law_2227 : decode cL_law 2227 = .ok (.invokevirtual 289, 3) := by decide +kernel
theorem dL_law_2230 : decode cL_law 2230 = .ok (.istore 6, 2) := by decide +kernel
theorem dL_law_2232 : decode cL_law 2232 = .ok (.aload_n 2, 1) := by decide +kernel
theorem dL_law_2233 : decode cL_law 2233 = .ok (.invokevirtual 184, 3) := by decide +kernel
theorem dL_law_2236 : decode cL_law 2236 = .ok (.iload 5, 2) := by decide +kernel
theorem dL_law_2238 : decode cL_law 2238 = .ok (.if_icmp .eq 5, 3) := by decide +kernel
theorem dL_law_2241 : decode cL_law 2241 = .ok (.iconst 0, 1) := by decide +kernel
theorem dL_law_2242 : decode cL_law 2242 = .ok (.ireturn, 1) := by decide +kernel
theorem dL_law_2243 : decode cL_law 2243 = .ok (.iload 5, 2) := by decide +kernel
theorem dL_law_2245 : decode cL_law 2245 = .ok (.ifCond .ne 15, 3) := by decide +kernel
theorem dL_law_2248 : decode cL_law 2248 = .ok (.aload_n 3, 1) := by decide +kernel
theorem dL_law_2249 : decode cL_law 2249 = .ok (.iconst 0, 1) := by decide +kernel
theorem dL_law_2250 : decode cL_law 2250 = .ok (.laload, 1) := by decide +kernel
theorem dL_law_2251 : decode cL_law 2251 = .ok (.iload 6, 2) := by decide +kernel
theorem dL_law_2253 : decode cL_law 2253 = .ok (.i2l, 1) := by decide +kernel
theorem dL_law_2254 : decode cL_law 2254 = .ok (.lcmp, 1) := by decide +kernel
theorem dL_law_2255 : decode cL_law 2255 = .ok (.ifCond .eq 5, 3) := by decide +kernel
theorem dL_law_2258 : decode cL_law 2258 = .ok (.iconst 0, 1) := by decide +kernel
theorem dL_law_2259 : decode cL_law 2259 = .ok (.ireturn, 1) := by decide +kernel
theorem dL_law_2260 : decode cL_law 2260 = .ok (.goto 1495, 3) := by decide +kernel
theorem dL_law_2263 : decode cL_law 2263 = .ok (.aload_n 1, 1) := by decide +kernel
theorem dL_law_2264 : decode cL_law 2264 = .ok (.aload_n 0, 1) := by decide +kernel
theorem dL_law_2265 : decode cL_law 2265 = .ok (.iload 4, 2) := by decide +kernel
theorem dL_law_2267 : decode cL_law 2267 = .ok (.iconst 1, 1) := by decide +kernel
theorem dL_law_2268 : decode cL_law 2268 = .ok (.iadd, 1) := by decide +kernel
theorem dL_law_2269 : decode cL_law 2269 = .ok (.iaload, 1) := by decide +kernel
theorem dL_law_2270 : decode cL_law 2270 = .ok (.aload_n 3, 1) := by decide +kernel
theorem dL_law_2271 : decode cL_law 2271 = .ok (.invokestatic 290, 3) := by decide +kernel
theorem dL_law_2274 : decode cL_law 2274 = .ok (.istore 5, 2) := by decide +kernel
theorem dL_law_2276 : decode cL_law 2276 = .ok (.aload_n 2, 1) := by decide +kernel
theorem dL_law_2277 : decode cL_law 2277 = .ok (.aload_n 0, 1) := by decide +kernel
theorem dL_law_2278 : decode cL_law 2278 = .ok (.iload 4, 2) := by decide +kernel
theorem dL_law_2280 : decode cL_law 2280 = .ok (.iconst 1, 1) := by decide +kernel
theorem dL_law_2281 : decode cL_law 2281 = .ok (.iadd, 1) := by decide +kernel
theorem dL_law_2282 : decode cL_law 2282 = .ok (.iaload, 1) := by decide +kernel
theorem dL_law_2283 : decode cL_law 2283 = .ok (.invokevirtual 292, 3) := by decide +kernel
theorem dL_law_2286 : decode cL_law 2286 = .ok (.istore 6, 2) := by decide +kernel
theorem dL_law_2288 : decode cL_law 2288 = .ok (.aload_n 2, 1) := by decide +kernel
theorem dL_law_2289 : decode cL_law 2289 = .ok (.invokevirtual 184, 3) := by decide +kernel
theorem dL_law_2292 : decode cL_law 2292 = .ok (.iload 5, 2) := by decide +kernel
theorem dL_law_2294 : decode cL_law 2294 = .ok (.if_icmp .eq 5, 3) := by decide +kernel
theorem dL_law_2297 : decode cL_law 2297 = .ok (.iconst 0, 1) := by decide +kernel
theorem dL_law_2298 : decode cL_law 2298 = .ok (.ireturn, 1) := by decide +kernel
theorem dL_law_2299 : decode cL_law 2299 = .ok (.iload 5, 2) := by decide +kernel
theorem dL_law_2301 : decode cL_law 2301 = .ok (.ifCond .ne 15, 3) := by decide +kernel
theorem dL_law_2304 : decode cL_law 2304 = .ok (.aload_n 3, 1) := by decide +kernel
theorem dL_law_2305 : decode cL_law 2305 = .ok (.iconst 0, 1) := by decide +kernel
theorem dL_law_2306 : decode cL_law 2306 = .ok (.laload, 1) := by decide +kernel
theorem dL_law_2307 : decode cL_law 2307 = .ok (.iload 6, 2) := by decide +kernel
theorem dL_law_2309 : decode cL_law 2309 = .ok (.i2l, 1) := by decide +kernel
theorem dL_law_2310 : decode cL_law 2310 = .ok (.lcmp, 1) := by decide +kernel
theorem dL_law_2311 : decode cL_law 2311 = .ok (.ifCond .eq 5, 3) := by decide +kernel
theorem dL_law_2314 : decode cL_law 2314 = .ok (.iconst 0, 1) := by decide +kernel
theorem dL_law_2315 : decode cL_law 2315 = .ok (.ireturn, 1) := by decide +kernel
theorem dL_law_2316 : decode cL_law 2316 = .ok (.goto 1439, 3) := by decide +kernel
theorem dL_law_2319 : decode cL_law 2319 = .ok (.aload_n 1, 1) := by decide +kernel
theorem dL_law_2320 : decode cL_law 2320 = .ok (.aload_n 0, 1) := by decide +kernel
theorem dL_law_2321 : decode cL_law 2321 = .ok (.iload 4, 2) := by decide +kernel
theorem dL_law_2323 : decode cL_law 2323 = .ok (.iconst 1, 1) := by decide +kernel
theorem dL_law_2324 : decode cL_law 2324 = .ok (.iadd, 1) := by decide +kernel
theorem dL_law_2325 : decode cL_law 2325 = .ok (.iaload, 1) := by decide +kernel
theorem dL_law_2326 : decode cL_law 2326 = .ok (.aload_n 3, 1) := by decide +kernel
theorem dL_law_2327 : decode cL_law 2327 = .ok (.invokestatic 293, 3) := by decide +kernel
theorem dL_law_2330 : decode cL_law 2330 = .ok (.istore 5, 2) := by decide +kernel
theorem dL_law_2332 : decode cL_law 2332 = .ok (.aload_n 2, 1) := by decide +kernel
theorem dL_law_2333 : decode cL_law 2333 = .ok (.aload_n 0, 1) := by decide +kernel
theorem dL_law_2334 : decode cL_law 2334 = .ok (.iload 4, 2) := by decide +kernel
theorem dL_law_2336 : decode cL_law 2336 = .ok (.iconst 1, 1) := by decide +kernel
theorem dL_law_2337 : decode cL_law 2337 = .ok (.iadd, 1) := by decide +kernel
theorem dL_law_2338 : decode cL_law 2338 = .ok (.iaload, 1) := by decide +kernel
theorem dL_law_2339 : decode cL_law 2339 = .ok (.invokevirtual 295, 3) := by decide +kernel
theorem dL_law_2342 : decode cL_law 2342 = .ok (.istore 6, 2) := by decide +kernel
theorem dL_law_2344 : decode cL_law 2344 = .ok (.aload_n 2, 1) := by decide +kernel
theorem dL_law_2345 : decode cL_law 2345 = .ok (.invokevirtual 184, 3) := by decide +kernel
theorem dL_law_2348 : decode cL_law 2348 = .ok (.iload 5, 2) := by decide +kernel
theorem dL_law_2350 : decode cL_law 2350 = .ok (.if_icmp .eq 5, 3) := by decide +kernel
theorem dL_law_2353 : decode cL_law 2353 = .ok (.iconst 0, 1) := by decide +kernel
theorem dL_law_2354 : decode cL_law 2354 = .ok (.ireturn, 1) := by decide +kernel
theorem dL_law_2355 : decode cL_law 2355 = .ok (.iload 5, 2) := by decide +kernel
theorem dL_law_2357 : decode cL_law 2357 = .ok (.ifCond .ne 15, 3) := by decide +kernel
theorem dL_law_2360 : decode cL_law 2360 = .ok (.aload_n 3, 1) := by decide +kernel
theorem dL_law_2361 : decode cL_law 2361 = .ok (.iconst 0, 1) := by decide +kernel
theorem dL_law_2362 : decode cL_law 2362 = .ok (.laload, 1) := by decide +kernel
theorem dL_law_2363 : decode cL_law 2363 = .ok (.iload 6, 2) := by decide +kernel
theorem dL_law_2365 : decode cL_law 2365 = .ok (.i2l, 1) := by decide +kernel
theorem dL_law_2366 : decode cL_law 2366 = .ok (.lcmp, 1) := by decide +kernel
theorem dL_law_2367 : decode cL_law 2367 = .ok (.ifCond .eq 5, 3) := by decide +kernel
theorem dL_law_2370 : decode cL_law 2370 = .ok (.iconst 0, 1) := by decide +kernel
theorem dL_law_2371 : decode cL_law 2371 = .ok (.ireturn, 1) := by decide +kernel
theorem dL_law_2372 : decode cL_law 2372 = .ok (.goto 1383, 3) := by decide +kernel
theorem dL_law_2375 : decode cL_law 2375 = .ok (.aload_n 1, 1) := by decide +kernel
theorem dL_law_2376 : decode cL_law 2376 = .ok (.aload_n 0, 1) := by decide +kernel
theorem dL_law_2377 : decode cL_law 2377 = .ok (.iload 4, 2) := by decide +kernel
theorem dL_law_2379 : decode cL_law 2379 = .ok (.iconst 1, 1) := by decide +kernel
theorem dL_law_2380 : decode cL_law 2380 = .ok (.iadd, 1) := by decide +kernel
theorem dL_law_2381 : decode cL_law 2381 = .ok (.iaload, 1) := by decide +kernel
theorem dL_law_2382 : decode cL_law 2382 = .ok (.aload_n 3, 1) := by decide +kernel
theorem dL_law_2383 : decode cL_law 2383 = .ok (.invokestatic 296, 3) := by decide +kernel
theorem dL_law_2386 : decode cL_law 2386 = .ok (.istore 5, 2) := by decide +kernel
theorem dL_law_2388 : decode cL_law 2388 = .ok (.aload_n 2, 1) := by decide +kernel
theorem dL_law_2389 : decode cL_law 2389 = .ok (.aload_n 0, 1) := by decide +kernel
theorem dL_law_2390 : decode cL_law 2390 = .ok (.iload 4, 2) := by decide +kernel
theorem dL_law_2392 : decode cL_law 2392 = .ok (.iconst 1, 1) := by decide +kernel
theorem dL_law_2393 : decode cL_law 2393 = .ok (.iadd, 1) := by decide +kernel
theorem dL_law_2394 : decode cL_law 2394 = .ok (.iaload, 1) := by decide +kernel
theorem dL_law_2395 : decode cL_law 2395 = .ok (.invokevirtual 298, 3) := by decide +kernel
theorem dL_law_2398 : decode cL_law 2398 = .ok (.istore 6, 2) := by decide +kernel
theorem dL_law_2400 : decode cL_law 2400 = .ok (.aload_n 2, 1) := by decide +kernel
theorem dL_law_2401 : decode cL_law 2401 = .ok (.invokevirtual 184, 3) := by decide +kernel
theorem dL_law_2404 : decode cL_law 2404 = .ok (.iload 5, 2) := by decide +kernel
theorem dL_law_2406 : decode cL_law 2406 = .ok (.if_icmp .eq 5, 3) := by decide +kernel
theorem dL_law_2409 : decode cL_law 2409 = .ok (.iconst 0, 1) := by decide +kernel
theorem dL_law_2410 : decode cL_law 2410 = .ok (.ireturn, 1) := by decide +kernel
theorem dL_law_2411 : decode cL_law 2411 = .ok (.iload 5, 2) := by decide +kernel
theorem dL_law_2413 : decode cL_law 2413 = .ok (.ifCond .ne 15, 3) := by decide +kernel
theorem dL_law_2416 : decode cL_law 2416 = .ok (.aload_n 3, 1) := by decide +kernel
theorem dL_law_2417 : decode cL_law 2417 = .ok (.iconst 0, 1) := by decide +kernel
theorem dL_law_2418 : decode cL_law 2418 = .ok (.laload, 1) := by decide +kernel
theorem dL_law_2419 : decode cL_law 2419 = .ok (.iload 6, 2) := by decide +kernel
theorem dL_law_2421 : decode cL_law 2421 = .ok (.i2l, 1) := by decide +kernel
theorem dL_law_2422 : decode cL_law 2422 = .ok (.lcmp, 1) := by decide +kernel
theorem dL_law_2423 : decode cL_law 2423 = .ok (.ifCond .eq 5, 3) := by decide +kernel
theorem dL_law_2426 : decode cL_law 2426 = .ok (.iconst 0, 1) := by decide +kernel
theorem dL_law_2427 : decode cL_law 2427 = .ok (.ireturn, 1) := by decide +kernel
theorem dL_law_2428 : decode cL_law 2428 = .ok (.goto 1327, 3) := by decide +kernel
theorem dL_law_2431 : decode cL_law 2431 = .ok (.aload_n 1, 1) := by decide +kernel
theorem dL_law_2432 : decode cL_law 2432 = .ok (.aload_n 0, 1) := by decide +kernel
theorem dL_law_2433 : decode cL_law 2433 = .ok (.iload 4, 2) := by decide +kernel
theorem dL_law_2435 : decode cL_law 2435 = .ok (.iconst 1, 1) := by decide +kernel
theorem dL_law_2436 : decode cL_law 2436 = .ok (.iadd, 1) := by decide +kernel
theorem dL_law_2437 : decode cL_law 2437 = .ok (.iaload, 1) := by decide +kernel
theorem dL_law_2438 : decode cL_law 2438 = .ok (.aload_n 0, 1) := by decide +kernel
theorem dL_law_2439 : decode cL_law 2439 = .ok (.iload 4, 2) := by decide +kernel
theorem dL_law_2441 : decode cL_law 2441 = .ok (.iconst 2, 1) := by decide +kernel
theorem dL_law_2442 : decode cL_law 2442 = .ok (.iadd, 1) := by decide +kernel
theorem dL_law_2443 : decode cL_law 2443 = .ok (.iaload, 1) := by decide +kernel
theorem dL_law_2444 : decode cL_law 2444 = .ok (.aload_n 0, 1) := by decide +kernel
theorem dL_law_2445 : decode cL_law 2445 = .ok (.iload 4, 2) := by decide +kernel
theorem dL_law_2447 : decode cL_law 2447 = .ok (.iconst 3, 1) := by decide +kernel
theorem dL_law_2448 : decode cL_law 2448 = .ok (.iadd, 1) := by decide +kernel
theorem dL_law_2449 : decode cL_law 2449 = .ok (.iaload, 1) := by decide +kernel
theorem dL_law_2450 : decode cL_law 2450 = .ok (.invokestatic 299, 3) := by decide +kernel
theorem dL_law_2453 : decode cL_law 2453 = .ok (.istore 5, 2) := by decide +kernel
theorem dL_law_2455 : decode cL_law 2455 = .ok (.aload_n 2, 1) := by decide +kernel
theorem dL_law_2456 : decode cL_law 2456 = .ok (.aload_n 0, 1) := by decide +kernel
theorem dL_law_2457 : decode cL_law 2457 = .ok (.iload 4, 2) := by decide +kernel
theorem dL_law_2459 : decode cL_law 2459 = .ok (.iconst 1, 1) := by decide +kernel
theorem dL_law_2460 : decode cL_law 2460 = .ok (.iadd, 1) := by decide +kernel
theorem dL_law_2461 : decode cL_law 2461 = .ok (.iaload, 1) := by decide +kernel
theorem dL_law_2462 : decode cL_law 2462 = .ok (.aload_n 0, 1) := by decide +kernel
theorem dL_law_2463 : decode cL_law 2463 = .ok (.iload 4, 2) := by decide +kernel
theorem dL_law_2465 : decode cL_law 2465 = .ok (.iconst 2, 1) := by decide +kernel
theorem dL_law_2466 : decode cL_law 2466 = .ok (.iadd, 1) := by decide +kernel
theorem dL_law_2467 : decode cL_law 2467 = .ok (.iaload, 1) := by decide +kernel
theorem dL_law_2468 : decode cL_law 2468 = .ok (.aload_n 0, 1) := by decide +kernel
theorem dL_law_2469 : decode cL_law 2469 = .ok (.iload 4, 2) := by decide +kernel
theorem dL_law_2471 : decode cL_law 2471 = .ok (.iconst 3, 1) := by decide +kernel
theorem dL_law_2472 : decode cL_law 2472 = .ok (.iadd, 1) := by decide +kernel
theorem dL_law_2473 : decode cL_law 2473 = .ok (.iaload, 1) := by decide +kernel
theorem dL_law_2474 : decode cL_law 2474 = .ok (.invokevirtual 302, 3) := by decide +kernel
theorem dL_law_2477 : decode cL_law 2477 = .ok (.aload_n 2, 1) := by decide +kernel
theorem dL_law_2478 : decode cL_law 2478 = .ok (.invokevirtual 184, 3) := by decide +kernel
theorem dL_law_2481 : decode cL_law 2481 = .ok (.iload 5, 2) := by decide +kernel
theorem dL_law_2483 : decode cL_law 2483 = .ok (.if_icmp .eq 5, 3) := by decide +kernel
theorem dL_law_2486 : decode cL_law 2486 = .ok (.iconst 0, 1) := by decide +kernel
theorem dL_law_2487 : decode cL_law 2487 = .ok (.ireturn, 1) := by decide +kernel
theorem dL_law_2488 : decode cL_law 2488 = .ok (.goto 1267, 3) := by decide +kernel
theorem dL_law_2491 : decode cL_law 2491 = .ok (.aload_n 1, 1) := by decide +kernel
theorem dL_law_2492 : decode cL_law 2492 = .ok (.aload_n 0, 1) := by decide +kernel
theorem dL_law_2493 : decode cL_law 2493 = .ok (.iload 4, 2) := by decide +kernel
theorem dL_law_2495 : decode cL_law 2495 = .ok (.iconst 1, 1) := by decide +kernel
theorem dL_law_2496 : decode cL_law 2496 = .ok (.iadd, 1) := by decide +kernel
theorem dL_law_2497 : decode cL_law 2497 = .ok (.iaload, 1) := by decide +kernel
theorem dL_law_2498 : decode cL_law 2498 = .ok (.aload_n 3, 1) := by decide +kernel
theorem dL_law_2499 : decode cL_law 2499 = .ok (.invokestatic 303, 3) := by decide +kernel
theorem dL_law_2502 : decode cL_law 2502 = .ok (.istore 5, 2) := by decide +kernel
theorem dL_law_2504 : decode cL_law 2504 = .ok (.aload_n 2, 1) := by decide +kernel
theorem dL_law_2505 : decode cL_law 2505 = .ok (.aload_n 0, 1) := by decide +kernel
theorem dL_law_2506 : decode cL_law 2506 = .ok (.iload 4, 2) := by decide +kernel
theorem dL_law_2508 : decode cL_law 2508 = .ok (.iconst 1, 1) := by decide +kernel
theorem dL_law_2509 : decode cL_law 2509 = .ok (.iadd, 1) := by decide +kernel
theorem dL_law_2510 : decode cL_law 2510 = .ok (.iaload, 1) := by decide +kernel
theorem dL_law_2511 : decode cL_law 2511 = .ok (.invokevirtual 305, 3) := by decide +kernel
theorem dL_law_2514 : decode cL_law 2514 = .ok (.istore 6, 2) := by decide +kernel
theorem dL_law_2516 : decode cL_law 2516 = .ok (.aload_n 2, 1) := by decide +kernel
theorem dL_law_2517 : decode cL_law 2517 = .ok (.invokevirtual 184, 3) := by decide +kernel
theorem dL_law_2520 : decode cL_law 2520 = .ok (.iload 5, 2) := by decide +kernel
theorem dL_law_2522 : decode cL_law 2522 = .ok (.if_icmp .eq 5, 3) := by decide +kernel
theorem dL_law_2525 : decode cL_law 2525 = .ok (.iconst 0, 1) := by decide +kernel
theorem dL_law_2526 : decode cL_law 2526 = .ok (.ireturn, 1) := by decide +kernel
theorem dL_law_2527 : decode cL_law 2527 = .ok (.iload 5, 2) := by decide +kernel
theorem dL_law_2529 : decode cL_law 2529 = .ok (.ifCond .ne 15, 3) := by decide +kernel
theorem dL_law_2532 : decode cL_law 2532 = .ok (.aload_n 3, 1) := by decide +kernel
theorem dL_law_2533 : decode cL_law 2533 = .ok (.iconst 0, 1) := by decide +kernel
theorem dL_law_2534 : decode cL_law 2534 = .ok (.laload, 1) := by decide +kernel
theorem dL_law_2535 : decode cL_law 2535 = .ok (.iload 6, 2) := by decide +kernel
theorem dL_law_2537 : decode cL_law 2537 = .ok (.i2l, 1) := by decide +kernel
theorem dL_law_2538 : decode cL_law 2538 = .ok (.lcmp, 1) := by decide +kernel
theorem dL_law_2539 : decode cL_law 2539 = .ok (.ifCond .eq 5, 3) := by decide +kernel
theorem dL_law_2542 : decode cL_law 2542 = .ok (.iconst 0, 1) := by decide +kernel
theorem dL_law_2543 : decode cL_law 2543 = .ok (.ireturn, 1) := by decide +kernel
theorem dL_law_2544 : decode cL_law 2544 = .ok (.goto 1211, 3) := by decide +kernel
theorem dL_law_2547 : decode cL_law 2547 = .ok (.aload_n 1, 1) := by decide +kernel
theorem dL_law_2548 : decode cL_law 2548 = .ok (.aload_n 0, 1) := by decide +kernel
theorem dL_law_2549 : decode cL_law 2549 = .ok (.iload 4, 2) := by decide +kernel
theorem dL_law_2551 : decode cL_law 2551 = .ok (.iconst 1, 1) := by decide +kernel
theorem dL_law_2552 : decode cL_law 2552 = .ok (.iadd, 1) := by decide +kernel
theorem dL_law_2553 : decode cL_law 2553 = .ok (.iaload, 1) := by decide +kernel
theorem dL_law_2554 : decode cL_law 2554 = .ok (.aload_n 0, 1) := by decide +kernel
theorem dL_law_2555 : decode cL_law 2555 = .ok (.iload 4, 2) := by decide +kernel
theorem dL_law_2557 : decode cL_law 2557 = .ok (.iconst 2, 1) := by decide +kernel
theorem dL_law_2558 : decode cL_law 2558 = .ok (.iadd, 1) := by decide +kernel
theorem dL_law_2559 : decode cL_law 2559 = .ok (.iaload, 1) := by decide +kernel
theorem dL_law_2560 : decode cL_law 2560 = .ok (.aload_n 3, 1) := by decide +kernel
theorem dL_law_2561 : decode cL_law 2561 = .ok (.invokestatic 306, 3) := by decide +kernel
theorem dL_law_2564 : decode cL_law 2564 = .ok (.istore 5, 2) := by decide +kernel
theorem dL_law_2566 : decode cL_law 2566 = .ok (.aload_n 2, 1) := by decide +kernel
theorem dL_law_2567 : decode cL_law 2567 = .ok (.aload_n 0, 1) := by decide +kernel
theorem dL_law_2568 : decode cL_law 2568 = .ok (.iload 4, 2) := by decide +kernel
theorem dL_law_2570 : decode cL_law 2570 = .ok (.iconst 1, 1) := by decide +kernel
theorem dL_law_2571 : decode cL_law 2571 = .ok (.iadd, 1) := by decide +kernel
theorem dL_law_2572 : decode cL_law 2572 = .ok (.iaload, 1) := by decide +kernel
theorem dL_law_2573 : decode cL_law 2573 = .ok (.aload_n 0, 1) := by decide +kernel
theorem dL_law_2574 : decode cL_law 2574 = .ok (.iload 4, 2) := by decide +kernel
theorem dL_law_2576 : decode cL_law 2576 = .ok (.iconst 2, 1) := by decide +kernel
theorem dL_law_2577 : decode cL_law 2577 = .ok (.iadd, 1) := by decide +kernel
theorem dL_law_2578 : decode cL_law 2578 = .ok (.iaload, 1) := by decide +kernel
theorem dL_law_2579 : decode cL_law 2579 = .ok (.invokevirtual 308, 3) := by decide +kernel
theorem dL_law_2582 : decode cL_law 2582 = .ok (.istore 6, 2) := by decide +kernel
theorem dL_law_2584 : decode cL_law 2584 = .ok (.aload_n 2, 1) := by decide +kernel
theorem dL_law_2585 : decode cL_law 2585 = .ok (.invokevirtual 184, 3) := by decide +kernel
theorem dL_law_2588 : decode cL_law 2588 = .ok (.iload 5, 2) := by decide +kernel
theorem dL_law_2590 : decode cL_law 2590 = .ok (.if_icmp .eq 5, 3) := by decide +kernel
theorem dL_law_2593 : decode cL_law 2593 = .ok (.iconst 0, 1) := by decide +kernel
theorem dL_law_2594 : decode cL_law 2594 = .ok (.ireturn, 1) := by decide +kernel
theorem dL_law_2595 : decode cL_law 2595 = .ok (.iload 5, 2) := by decide +kernel
theorem dL_law_2597 : decode cL_law 2597 = .ok (.ifCond .ne 15, 3) := by decide +kernel
theorem dL_law_2600 : decode cL_law 2600 = .ok (.aload_n 3, 1) := by decide +kernel
theorem dL_law_2601 : decode cL_law 2601 = .ok (.iconst 0, 1) := by decide +kernel
theorem dL_law_2602 : decode cL_law 2602 = .ok (.laload, 1) := by decide +kernel
theorem dL_law_2603 : decode cL_law 2603 = .ok (.iload 6, 2) := by decide +kernel
theorem dL_law_2605 : decode cL_law 2605 = .ok (.i2l, 1) := by decide +kernel
theorem dL_law_2606 : decode cL_law 2606 = .ok (.lcmp, 1) := by decide +kernel
theorem dL_law_2607 : decode cL_law 2607 = .ok (.ifCond .eq 5, 3) := by decide +kernel
theorem dL_law_2610 : decode cL_law 2610 = .ok (.iconst 0, 1) := by decide +kernel
theorem dL_law_2611 : decode cL_law 2611 = .ok (.ireturn, 1) := by decide +kernel
theorem dL_law_2612 : decode cL_law 2612 = .ok (.goto 1143, 3) := by decide +kernel
theorem dL_law_2615 : decode cL_law 2615 = .ok (.aload_n 1, 1) := by decide +kernel
theorem dL_law_2616 : decode cL_law 2616 = .ok (.aload_n 0, 1) := by decide +kernel
theorem dL_law_2617 : decode cL_law 2617 = .ok (.iload 4, 2) := by decide +kernel
theorem dL_law_2619 : decode cL_law 2619 = .ok (.iconst 1, 1) := by decide +kernel
theorem dL_law_2620 : decode cL_law 2620 = .ok (.iadd, 1) := by decide +kernel
theorem dL_law_2621 : decode cL_law 2621 = .ok (.iaload, 1) := by decide +kernel
theorem dL_law_2622 : decode cL_law 2622 = .ok (.aload_n 0, 1) := by decide +kernel
theorem dL_law_2623 : decode cL_law 2623 = .ok (.iload 4, 2) := by decide +kernel
theorem dL_law_2625 : decode cL_law 2625 = .ok (.iconst 2, 1) := by decide +kernel
theorem dL_law_2626 : decode cL_law 2626 = .ok (.iadd, 1) := by decide +kernel
theorem dL_law_2627 : decode cL_law 2627 = .ok (.iaload, 1) := by decide +kernel
theorem dL_law_2628 : decode cL_law 2628 = .ok (.aload_n 3, 1) := by decide +kernel
theorem dL_law_2629 : decode cL_law 2629 = .ok (.invokestatic 309, 3) := by decide +kernel
theorem dL_law_2632 : decode cL_law 2632 = .ok (.istore 5, 2) := by decide +kernel
theorem dL_law_2634 : decode cL_law 2634 = .ok (.aload_n 2, 1) := by decide +kernel
theorem dL_law_2635 : decode cL_law 2635 = .ok (.aload_n 0, 1) := by decide +kernel
theorem dL_law_2636 : decode cL_law 2636 = .ok (.iload 4, 2) := by decide +kernel
theorem dL_law_2638 : decode cL_law 2638 = .ok (.iconst 1, 1) := by decide +kernel
theorem dL_law_2639 : decode cL_law 2639 = .ok (.iadd, 1) := by decide +kernel
theorem dL_law_2640 : decode cL_law 2640 = .ok (.iaload, 1) := by decide +kernel
theorem dL_law_2641 : decode cL_law 2641 = .ok (.aload_n 0, 1) := by decide +kernel
theorem dL_law_2642 : decode cL_law 2642 = .ok (.iload 4, 2) := by decide +kernel
theorem dL_law_2644 : decode cL_law 2644 = .ok (.iconst 2, 1) := by decide +kernel
theorem dL_law_2645 : decode cL_law 2645 = .ok (.iadd, 1) := by decide +kernel
theorem dL_law_2646 : decode cL_law 2646 = .ok (.iaload, 1) := by decide +kernel
theorem dL_law_2647 : decode cL_law 2647 = .ok (.invokevirtual 311, 3) := by decide +kernel
theorem dL_law_2650 : decode cL_law 2650 = .ok (.istore 6, 2) := by decide +kernel
theorem dL_law_2652 : decode cL_law 2652 = .ok (.aload_n 2, 1) := by decide +kernel
theorem dL_law_2653 : decode cL_law 2653 = .ok (.invokevirtual 184, 3) := by decide +kernel
theorem dL_law_2656 : decode cL_law 2656 = .ok (.iload 5, 2) := by decide +kernel
theorem dL_law_2658 : decode cL_law 2658 = .ok (.if_icmp .eq 5, 3) := by decide +kernel
theorem dL_law_2661 : decode cL_law 2661 = .ok (.iconst 0, 1) := by decide +kernel
theorem dL_law_2662 : decode cL_law 2662 = .ok (.ireturn, 1) := by decide +kernel
theorem dL_law_2663 : decode cL_law 2663 = .ok (.iload 5, 2) := by decide +kernel
theorem dL_law_2665 : decode cL_law 2665 = .ok (.ifCond .ne 15, 3) := by decide +kernel
theorem dL_law_2668 : decode cL_law 2668 = .ok (.aload_n 3, 1) := by decide +kernel
theorem dL_law_2669 : decode cL_law 2669 = .ok (.iconst 0, 1) := by decide +kernel
theorem dL_law_2670 : decode cL_law 2670 = .ok (.laload, 1) := by decide +kernel
theorem dL_law_2671 : decode cL_law 2671 = .ok (.iload 6, 2) := by decide +kernel
theorem dL_law_2673 : decode cL_law 2673 = .ok (.i2l, 1) := by decide +kernel
theorem dL_law_2674 : decode cL_law 2674 = .ok (.lcmp, 1) := by decide +kernel
theorem dL_law_2675 : decode cL_law 2675 = .ok (.ifCond .eq 5, 3) := by decide +kernel
theorem dL_law_2678 : decode cL_law 2678 = .ok (.iconst 0, 1) := by decide +kernel
theorem dL_law_2679 : decode cL_law 2679 = .ok (.ireturn, 1) := by decide +kernel
theorem dL_law_2680 : decode cL_law 2680 = .ok (.goto 1075, 3) := by decide +kernel
theorem dL_law_2683 : decode cL_law 2683 = .ok (.aload_n 1, 1) := by decide +kernel
theorem dL_law_2684 : decode cL_law 2684 = .ok (.aload_n 0, 1) := by decide +kernel
theorem dL_law_2685 : decode cL_law 2685 = .ok (.iload 4, 2) := by decide +kernel
theorem dL_law_2687 : decode cL_law 2687 = .ok (.iconst 1, 1) := by decide +kernel
theorem dL_law_2688 : decode cL_law 2688 = .ok (.iadd, 1) := by decide +kernel
theorem dL_law_2689 : decode cL_law 2689 = .ok (.iaload, 1) := by decide +kernel
theorem dL_law_2690 : decode cL_law 2690 = .ok (.aload_n 0, 1) := by decide +kernel
theorem dL_law_2691 : decode cL_law 2691 = .ok (.iload 4, 2) := by decide +kernel
theorem dL_law_2693 : decode cL_law 2693 = .ok (.iconst 2, 1) := by decide +kernel
theorem dL_law_2694 : decode cL_law 2694 = .ok (.iadd, 1) := by decide +kernel
theorem dL_law_2695 : decode cL_law 2695 = .ok (.iaload, 1) := by decide +kernel
theorem dL_law_2696 : decode cL_law 2696 = .ok (.aload_n 3, 1) := by decide +kernel
theorem dL_law_2697 : decode cL_law 2697 = .ok (.invokestatic 312, 3) := by decide +kernel
theorem dL_law_2700 : decode cL_law 2700 = .ok (.istore 5, 2) := by decide +kernel
theorem dL_law_2702 : decode cL_law 2702 = .ok (.aload_n 2, 1) := by decide +kernel
theorem dL_law_2703 : decode cL_law 2703 = .ok (.aload_n 0, 1) := by decide +kernel
theorem dL_law_2704 : decode cL_law 2704 = .ok (.iload 4, 2) := by decide +kernel
theorem dL_law_2706 : decode cL_law 2706 = .ok (.iconst 1, 1) := by decide +kernel
theorem dL_law_2707 : decode cL_law 2707 = .ok (.iadd, 1) := by decide +kernel
theorem dL_law_2708 : decode cL_law 2708 = .ok (.iaload, 1) := by decide +kernel
theorem dL_law_2709 : decode cL_law 2709 = .ok (.aload_n 0, 1) := by decide +kernel
theorem dL_law_2710 : decode cL_law 2710 = .ok (.iload 4, 2) := by decide +kernel
theorem dL_law_2712 : decode cL_law 2712 = .ok (.iconst 2, 1) := by decide +kernel
theorem dL_law_2713 : decode cL_law 2713 = .ok (.iadd, 1) := by decide +kernel
theorem dL_law_2714 : decode cL_law 2714 = .ok (.iaload, 1) := by decide +kernel
theorem dL_law_2715 : decode cL_law 2715 = .ok (.invokevirtual 314, 3) := by decide +kernel
theorem dL_law_2718 : decode cL_law 2718 = .ok (.istore 6, 2) := by decide +kernel
theorem dL_law_2720 : decode cL_law 2720 = .ok (.aload_n 2, 1) := by decide +kernel
theorem dL_law_2721 : decode cL_law 2721 = .ok (.invokevirtual 184, 3) := by decide +kernel
theorem dL_law_2724 : decode cL_law 2724 = .ok (.iload 5, 2) := by decide +kernel
theorem dL_law_2726 : decode cL_law 2726 = .ok (.if_icmp .eq 5, 3) := by decide +kernel
theorem dL_law_2729 : decode cL_law 2729 = .ok (.iconst 0, 1) := by decide +kernel
theorem dL_law_2730 : decode cL_law 2730 = .ok (.ireturn, 1) := by decide +kernel
theorem dL_law_2731 : decode cL_law 2731 = .ok (.iload 5, 2) := by decide +kernel
theorem dL_law_2733 : decode cL_law 2733 = .ok (.ifCond .ne 15, 3) := by decide +kernel
theorem dL_law_2736 : decode cL_law 2736 = .ok (.aload_n 3, 1) := by decide +kernel
theorem dL_law_2737 : decode cL_law 2737 = .ok (.iconst 0, 1) := by decide +kernel
theorem dL_law_2738 : decode cL_law 2738 = .ok (.laload, 1) := by decide +kernel
theorem dL_law_2739 : decode cL_law 2739 = .ok (.iload 6, 2) := by decide +kernel
theorem dL_law_2741 : decode cL_law 2741 = .ok (.i2l, 1) := by decide +kernel
theorem dL_law_2742 : decode cL_law 2742 = .ok (.lcmp, 1) := by decide +kernel
theorem dL_law_2743 : decode cL_law 2743 = .ok (.ifCond .eq 5, 3) := by decide +kernel
theorem dL_law_2746 : decode cL_law 2746 = .ok (.iconst 0, 1) := by decide +kernel
theorem dL_law_2747 : decode cL_law 2747 = .ok (.ireturn, 1) := by decide +kernel
theorem dL_law_2748 : decode cL_law 2748 = .ok (.goto 1007, 3) := by decide +kernel
theorem dL_law_2751 : decode cL_law 2751 = .ok (.aload_n 1, 1) := by decide +kernel
theorem dL_law_2752 : decode cL_law 2752 = .ok (.aload_n 0, 1) := by decide +kernel
theorem dL_law_2753 : decode cL_law 2753 = .ok (.iload 4, 2) := by decide +kernel
theorem dL_law_2755 : decode cL_law 2755 = .ok (.iconst 1, 1) := by decide +kernel
theorem dL_law_2756 : decode cL_law 2756 = .ok (.iadd, 1) := by decide +kernel
theorem dL_law_2757 : decode cL_law 2757 = .ok (.iaload, 1) := by decide +kernel
theorem dL_law_2758 : decode cL_law 2758 = .ok (.aload_n 0, 1) := by decide +kernel
theorem dL_law_2759 : decode cL_law 2759 = .ok (.iload 4, 2) := by decide +kernel
theorem dL_law_2761 : decode cL_law 2761 = .ok (.iconst 2, 1) := by decide +kernel
theorem dL_law_2762 : decode cL_law 2762 = .ok (.iadd, 1) := by decide +kernel
theorem dL_law_2763 : decode cL_law 2763 = .ok (.iaload, 1) := by decide +kernel
theorem dL_law_2764 : decode cL_law 2764 = .ok (.aload_n 3, 1) := by decide +kernel
theorem dL_law_2765 : decode cL_law 2765 = .ok (.invokestatic 315, 3) := by decide +kernel
theorem dL_law_2768 : decode cL_law 2768 = .ok (.istore 5, 2) := by decide +kernel
theorem dL_law_2770 : decode cL_law 2770 = .ok (.aload_n 2, 1) := by decide +kernel
theorem dL_law_2771 : decode cL_law 2771 = .ok (.aload_n 0, 1) := by decide +kernel
theorem dL_law_2772 : decode cL_law 2772 = .ok (.iload 4, 2) := by decide +kernel
theorem dL_law_2774 : decode cL_law 2774 = .ok (.iconst 1, 1) := by decide +kernel
theorem dL_law_2775 : decode cL_law 2775 = .ok (.iadd, 1) := by decide +kernel
theorem dL_law_2776 : decode cL_law 2776 = .ok (.iaload, 1) := by decide +kernel
theorem dL_law_2777 : decode cL_law 2777 = .ok (.aload_n 0, 1) := by decide +kernel
theorem dL_law_2778 : decode cL_law 2778 = .ok (.iload 4, 2) := by decide +kernel
theorem dL_law_2780 : decode cL_law 2780 = .ok (.iconst 2, 1) := by decide +kernel
theorem dL_law_2781 : decode cL_law 2781 = .ok (.iadd, 1) := by decide +kernel
theorem dL_law_2782 : decode cL_law 2782 = .ok (.iaload, 1) := by decide +kernel
theorem dL_law_2783 : decode cL_law 2783 = .ok (.invokevirtual 317, 3) := by decide +kernel
theorem dL_law_2786 : decode cL_law 2786 = .ok (.istore 6, 2) := by decide +kernel
theorem dL_law_2788 : decode cL_law 2788 = .ok (.aload_n 2, 1) := by decide +kernel
theorem dL_law_2789 : decode cL_law 2789 = .ok (.invokevirtual 184, 3) := by decide +kernel
theorem dL_law_2792 : decode cL_law 2792 = .ok (.iload 5, 2) := by decide +kernel
theorem dL_law_2794 : decode cL_law 2794 = .ok (.if_icmp .eq 5, 3) := by decide +kernel
theorem dL_law_2797 : decode cL_law 2797 = .ok (.iconst 0, 1) := by decide +kernel
theorem dL_law_2798 : decode cL_law 2798 = .ok (.ireturn, 1) := by decide +kernel
theorem dL_law_2799 : decode cL_law 2799 = .ok (.iload 5, 2) := by decide +kernel
theorem dL_law_2801 : decode cL_law 2801 = .ok (.ifCond .ne 15, 3) := by decide +kernel
theorem dL_law_2804 : decode cL_law 2804 = .ok (.aload_n 3, 1) := by decide +kernel
theorem dL_law_2805 : decode cL_law 2805 = .ok (.iconst 0, 1) := by decide +kernel
theorem dL_law_2806 : decode cL_law 2806 = .ok (.laload, 1) := by decide +kernel
theorem dL_law_2807 : decode cL_law 2807 = .ok (.iload 6, 2) := by decide +kernel
theorem dL_law_2809 : decode cL_law 2809 = .ok (.i2l, 1) := by decide +kernel
theorem dL_law_2810 : decode cL_law 2810 = .ok (.lcmp, 1) := by decide +kernel
theorem dL_law_2811 : decode cL_law 2811 = .ok (.ifCond .eq 5, 3) := by decide +kernel
theorem dL_law_2814 : decode cL_law 2814 = .ok (.iconst 0, 1) := by decide +kernel
theorem dL_law_2815 : decode cL_law 2815 = .ok (.ireturn, 1) := by decide +kernel
theorem dL_law_2816 : decode cL_law 2816 = .ok (.goto 939, 3) := by decide +kernel
theorem dL_law_2819 : decode cL_law 2819 = .ok (.aload_n 1, 1) := by decide +kernel
theorem dL_law_2820 : decode cL_law 2820 = .ok (.aload_n 0, 1) := by decide +kernel
theorem dL_law_2821 : decode cL_law 2821 = .ok (.iload 4, 2) := by decide +kernel
theorem dL_law_2823 : decode cL_law 2823 = .ok (.iconst 1, 1) := by decide +kernel
theorem dL_law_2824 : decode cL_law 2824 = .ok (.iadd, 1) := by decide +kernel
theorem dL_law_2825 : decode cL_law 2825 = .ok (.iaload, 1) := by decide +kernel
theorem dL_law_2826 : decode cL_law 2826 = .ok (.aload_n 0, 1) := by decide +kernel
theorem dL_law_2827 : decode cL_law 2827 = .ok (.iload 4, 2) := by decide +kernel
theorem dL_law_2829 : decode cL_law 2829 = .ok (.iconst 2, 1) := by decide +kernel
theorem dL_law_2830 : decode cL_law 2830 = .ok (.iadd, 1) := by decide +kernel
theorem dL_law_2831 : decode cL_law 2831 = .ok (.iaload, 1) := by decide +kernel
theorem dL_law_2832 : decode cL_law 2832 = .ok (.aload_n 3, 1) := by decide +kernel
theorem dL_law_2833 : decode cL_law 2833 = .ok (.invokestatic 318, 3) := by decide +kernel
theorem dL_law_2836 : decode cL_law 2836 = .ok (.istore 5, 2) := by decide +kernel
theorem dL_law_2838 : decode cL_law 2838 = .ok (.aload_n 2, 1) := by decide +kernel
theorem dL_law_2839 : decode cL_law 2839 = .ok (.aload_n 0, 1) := by decide +kernel
theorem dL_law_2840 : decode cL_law 2840 = .ok (.iload 4, 2) := by decide +kernel
theorem dL_law_2842 : decode cL_law 2842 = .ok (.iconst 1, 1) := by decide +kernel
theorem dL_law_2843 : decode cL_law 2843 = .ok (.iadd, 1) := by decide +kernel
theorem dL_law_2844 : decode cL_law 2844 = .ok (.iaload, 1) := by decide +kernel
theorem dL_law_2845 : decode cL_law 2845 = .ok (.aload_n 0, 1) := by decide +kernel
theorem dL_law_2846 : decode cL_law 2846 = .ok (.iload 4, 2) := by decide +kernel
theorem dL_law_2848 : decode cL_law 2848 = .ok (.iconst 2, 1) := by decide +kernel
theorem dL_law_2849 : decode cL_law 2849 = .ok (.iadd, 1) := by decide +kernel
theorem dL_law_2850 : decode cL_law 2850 = .ok (.iaload, 1) := by decide +kernel
theorem dL_law_2851 : decode cL_law 2851 = .ok (.invokevirtual 320, 3) := by decide +kernel
theorem dL_law_2854 : decode cL_law 2854 = .ok (.istore 6, 2) := by decide +kernel
theorem dL_law_2856 : decode cL_law 2856 = .ok (.aload_n 2, 1) := by decide +kernel
theorem dL_law_2857 : decode cL_law 2857 = .ok (.invokevirtual 184, 3) := by decide +kernel
theorem dL_law_2860 : decode cL_law 2860 = .ok (.iload 5, 2) := by decide +kernel
theorem dL_law_2862 : decode cL_law 2862 = .ok (.if_icmp .eq 5, 3) := by decide +kernel
theorem dL_law_2865 : decode cL_law 2865 = .ok (.iconst 0, 1) := by decide +kernel
theorem dL_law_2866 : decode cL_law 2866 = .ok (.ireturn, 1) := by decide +kernel
theorem dL_law_2867 : decode cL_law 2867 = .ok (.iload 5, 2) := by decide +kernel
theorem dL_law_2869 : decode cL_law 2869 = .ok (.ifCond .ne 15, 3) := by decide +kernel
theorem dL_law_2872 : decode cL_law 2872 = .ok (.aload_n 3, 1) := by decide +kernel
theorem dL_law_2873 : decode cL_law 2873 = .ok (.iconst 0, 1) := by decide +kernel
theorem dL_law_2874 : decode cL_law 2874 = .ok (.laload, 1) := by decide +kernel
theorem dL_law_2875 : decode cL_law 2875 = .ok (.iload 6, 2) := by decide +kernel
theorem dL_law_2877 : decode cL_law 2877 = .ok (.i2l, 1) := by decide +kernel
theorem dL_law_2878 : decode cL_law 2878 = .ok (.lcmp, 1) := by decide +kernel
theorem dL_law_2879 : decode cL_law 2879 = .ok (.ifCond .eq 5, 3) := by decide +kernel
theorem dL_law_2882 : decode cL_law 2882 = .ok (.iconst 0, 1) := by decide +kernel
theorem dL_law_2883 : decode cL_law 2883 = .ok (.ireturn, 1) := by decide +kernel
theorem dL_law_2884 : decode cL_law 2884 = .ok (.goto 871, 3) := by decide +kernel
theorem dL_law_2887 : decode cL_law 2887 = .ok (.aload_n 1, 1) := by decide +kernel
theorem dL_law_2888 : decode cL_law 2888 = .ok (.aload_n 0, 1) := by decide +kernel
theorem dL_law_2889 : decode cL_law 2889 = .ok (.iload 4, 2) := by decide +kernel
theorem dL_law_2891 : decode cL_law 2891 = .ok (.iconst 1, 1) := by decide +kernel
theorem dL_law_2892 : decode cL_law 2892 = .ok (.iadd, 1) := by decide +kernel
theorem dL_law_2893 : decode cL_law 2893 = .ok (.iaload, 1) := by decide +kernel
theorem dL_law_2894 : decode cL_law 2894 = .ok (.aload_n 3, 1) := by decide +kernel
theorem dL_law_2895 : decode cL_law 2895 = .ok (.invokestatic 321, 3) := by decide +kernel
theorem dL_law_2898 : decode cL_law 2898 = .ok (.istore 5, 2) := by decide +kernel
theorem dL_law_2900 : decode cL_law 2900 = .ok (.aload_n 2, 1) := by decide +kernel
theorem dL_law_2901 : decode cL_law 2901 = .ok (.aload_n 0, 1) := by decide +kernel
theorem dL_law_2902 : decode cL_law 2902 = .ok (.iload 4, 2) := by decide +kernel
theorem dL_law_2904 : decode cL_law 2904 = .ok (.iconst 1, 1) := by decide +kernel
theorem dL_law_2905 : decode cL_law 2905 = .ok (.iadd, 1) := by decide +kernel
theorem dL_law_2906 : decode cL_law 2906 = .ok (.iaload, 1) := by decide +kernel
theorem dL_law_2907 : decode cL_law 2907 = .ok (.invokevirtual 323, 3) := by decide +kernel
theorem dL_law_2910 : decode cL_law 2910 = .ok (.istore 6, 2) := by decide +kernel
theorem dL_law_2912 : decode cL_law 2912 = .ok (.aload_n 2, 1) := by decide +kernel
theorem dL_law_2913 : decode cL_law 2913 = .ok (.invokevirtual 184, 3) := by decide +kernel
theorem dL_law_2916 : decode cL_law 2916 = .ok (.iload 5, 2) := by decide +kernel
theorem dL_law_2918 : decode cL_law 2918 = .ok (.if_icmp .eq 5, 3) := by decide +kernel
theorem dL_law_2921 : decode cL_law 2921 = .ok (.iconst 0, 1) := by decide +kernel
theorem dL_law_2922 : decode cL_law 2922 = .ok (.ireturn, 1) := by decide +kernel
theorem dL_law_2923 : decode cL_law 2923 = .ok (.iload 5, 2) := by decide +kernel
theorem dL_law_2925 : decode cL_law 2925 = .ok (.ifCond .ne 15, 3) := by decide +kernel
theorem dL_law_2928 : decode cL_law 2928 = .ok (.aload_n 3, 1) := by decide +kernel
theorem dL_law_2929 : decode cL_law 2929 = .ok (.iconst 0, 1) := by decide +kernel
theorem dL_law_2930 : decode cL_law 2930 = .ok (.laload, 1) := by decide +kernel
theorem dL_law_2931 : decode cL_law 2931 = .ok (.iload 6, 2) := by decide +kernel
theorem dL_law_2933 : decode cL_law 2933 = .ok (.i2l, 1) := by decide +kernel
theorem dL_law_2934 : decode cL_law 2934 = .ok (.lcmp, 1) := by decide +kernel
theorem dL_law_2935 : decode cL_law 2935 = .ok (.ifCond .eq 5, 3) := by decide +kernel
theorem dL_law_2938 : decode cL_law 2938 = .ok (.iconst 0, 1) := by decide +kernel
theorem dL_law_2939 : decode cL_law 2939 = .ok (.ireturn, 1) := by decide +kernel
theorem dL_law_2940 : decode cL_law 2940 = .ok (.goto 815, 3) := by decide +kernel
theorem dL_law_2943 : decode cL_law 2943 = .ok (.aload_n 1, 1) := by decide +kernel
theorem dL_law_2944 : decode cL_law 2944 = .ok (.aload_n 0, 1) := by decide +kernel
theorem dL_law_2945 : decode cL_law 2945 = .ok (.iload 4, 2) := by decide +kernel
theorem dL_law_2947 : decode cL_law 2947 = .ok (.iconst 1, 1) := by decide +kernel
theorem dL_law_2948 : decode cL_law 2948 = .ok (.iadd, 1) := by decide +kernel
theorem dL_law_2949 : decode cL_law 2949 = .ok (.iaload, 1) := by decide +kernel
theorem dL_law_2950 : decode cL_law 2950 = .ok (.aload_n 0, 1) := by decide +kernel
theorem dL_law_2951 : decode cL_law 2951 = .ok (.iload 4, 2) := by decide +kernel
theorem dL_law_2953 : decode cL_law 2953 = .ok (.iconst 2, 1) := by decide +kernel
theorem dL_law_2954 : decode cL_law 2954 = .ok (.iadd, 1) := by decide +kernel
theorem dL_law_2955 : decode cL_law 2955 = .ok (.iaload, 1) := by decide +kernel
theorem dL_law_2956 : decode cL_law 2956 = .ok (.aload_n 3, 1) := by decide +kernel
theorem dL_law_2957 : decode cL_law 2957 = .ok (.invokestatic 324, 3) := by decide +kernel
theorem dL_law_2960 : decode cL_law 2960 = .ok (.istore 5, 2) := by decide +kernel
theorem dL_law_2962 : decode cL_law 2962 = .ok (.aload_n 2, 1) := by decide +kernel
theorem dL_law_2963 : decode cL_law 2963 = .ok (.aload_n 0, 1) := by decide +kernel
theorem dL_law_2964 : decode cL_law 2964 = .ok (.iload 4, 2) := by decide +kernel
theorem dL_law_2966 : decode cL_law 2966 = .ok (.iconst 1, 1) := by decide +kernel
theorem dL_law_2967 : decode cL_law 2967 = .ok (.iadd, 1) := by decide +kernel
theorem dL_law_2968 : decode cL_law 2968 = .ok (.iaload, 1) := by decide +kernel
theorem dL_law_2969 : decode cL_law 2969 = .ok (.aload_n 0, 1) := by decide +kernel
theorem dL_law_2970 : decode cL_law 2970 = .ok (.iload 4, 2) := by decide +kernel
theorem dL_law_2972 : decode cL_law 2972 = .ok (.iconst 2, 1) := by decide +kernel
theorem dL_law_2973 : decode cL_law 2973 = .ok (.iadd, 1) := by decide +kernel
theorem dL_law_2974 : decode cL_law 2974 = .ok (.iaload, 1) := by decide +kernel
theorem dL_law_2975 : decode cL_law 2975 = .ok (.invokevirtual 326, 3) := by decide +kernel
theorem dL_law_2978 : decode cL_law 2978 = .ok (.istore 6, 2) := by decide +kernel
theorem dL_law_2980 : decode cL_law 2980 = .ok (.aload_n 2, 1) := by decide +kernel
theorem dL_law_2981 : decode cL_law 2981 = .ok (.invokevirtual 184, 3) := by decide +kernel
theorem dL_law_2984 : decode cL_law 2984 = .ok (.iload 5, 2) := by decide +kernel
theorem dL_law_2986 : decode cL_law 2986 = .ok (.if_icmp .eq 5, 3) := by decide +kernel
theorem dL_law_2989 : decode cL_law 2989 = .ok (.iconst 0, 1) := by decide +kernel
theorem dL_law_2990 : decode cL_law 2990 = .ok (.ireturn, 1) := by decide +kernel
theorem dL_law_2991 : decode cL_law 2991 = .ok (.iload 5, 2) := by decide +kernel
theorem dL_law_2993 : decode cL_law 2993 = .ok (.ifCond .ne 15, 3) := by decide +kernel
theorem dL_law_2996 : decode cL_law 2996 = .ok (.aload_n 3, 1) := by decide +kernel
theorem dL_law_2997 : decode cL_law 2997 = .ok (.iconst 0, 1) := by decide +kernel
theorem dL_law_2998 : decode cL_law 2998 = .ok (.laload, 1) := by decide +kernel
theorem dL_law_2999 : decode cL_law 2999 = .ok (.iload 6, 2) := by decide +kernel
theorem dL_law_3001 : decode cL_law 3001 = .ok (.i2l, 1) := by decide +kernel
theorem dL_law_3002 : decode cL_law 3002 = .ok (.lcmp, 1) := by decide +kernel
theorem dL_law_3003 : decode cL_law 3003 = .ok (.ifCond .eq 5, 3) := by decide +kernel
theorem dL_law_3006 : decode cL_law 3006 = .ok (.iconst 0, 1) := by decide +kernel
theorem dL_law_3007 : decode cL_law 3007 = .ok (.ireturn, 1) := by decide +kernel
theorem dL_law_3008 : decode cL_law 3008 = .ok (.goto 747, 3) := by decide +kernel
theorem dL_law_3011 : decode cL_law 3011 = .ok (.aload_n 1, 1) := by decide +kernel
theorem dL_law_3012 : decode cL_law 3012 = .ok (.aload_n 0, 1) := by decide +kernel
theorem dL_law_3013 : decode cL_law 3013 = .ok (.iload 4, 2) := by decide +kernel
theorem dL_law_3015 : decode cL_law 3015 = .ok (.iconst 1, 1) := by decide +kernel
theorem dL_law_3016 : decode cL_law 3016 = .ok (.iadd, 1) := by decide +kernel
theorem dL_law_3017 : decode cL_law 3017 = .ok (.iaload, 1) := by decide +kernel
theorem dL_law_3018 : decode cL_law 3018 = .ok (.aload_n 3, 1) := by decide +kernel
theorem dL_law_3019 : decode cL_law 3019 = .ok (.invokestatic 327, 3) := by decide +kernel
theorem dL_law_3022 : decode cL_law 3022 = .ok (.istore 5, 2) := by decide +kernel
theorem dL_law_3024 : decode cL_law 3024 = .ok (.aload_n 2, 1) := by decide +kernel
theorem dL_law_3025 : decode cL_law 3025 = .ok (.aload_n 0, 1) := by decide +kernel
theorem dL_law_3026 : decode cL_law 3026 = .ok (.iload 4, 2) := by decide +kernel
theorem dL_law_3028 : decode cL_law 3028 = .ok (.iconst 1, 1) := by decide +kernel
theorem dL_law_3029 : decode cL_law 3029 = .ok (.iadd, 1) := by decide +kernel
theorem dL_law_3030 : decode cL_law 3030 = .ok (.iaload, 1) := by decide +kernel
theorem dL_law_3031 : decode cL_law 3031 = .ok (.invokevirtual 329, 3) := by decide +kernel
theorem dL_law_3034 : decode cL_law 3034 = .ok (.istore 6, 2) := by decide +kernel
theorem dL_law_3036 : decode cL_law 3036 = .ok (.aload_n 2, 1) := by decide +kernel
theorem dL_law_3037 : decode cL_law 3037 = .ok (.invokevirtual 184, 3) := by decide +kernel
theorem dL_law_3040 : decode cL_law 3040 = .ok (.iload 5, 2) := by decide +kernel
theorem dL_law_3042 : decode cL_law 3042 = .ok (.if_icmp .eq 5, 3) := by decide +kernel
theorem dL_law_3045 : decode cL_law 3045 = .ok (.iconst 0, 1) := by decide +kernel
theorem dL_law_3046 : decode cL_law 3046 = .ok (.ireturn, 1) := by decide +kernel
theorem dL_law_3047 : decode cL_law 3047 = .ok (.iload 5, 2) := by decide +kernel
theorem dL_law_3049 : decode cL_law 3049 = .ok (.ifCond .ne 15, 3) := by decide +kernel
theorem dL_law_3052 : decode cL_law 3052 = .ok (.aload_n 3, 1) := by decide +kernel
theorem dL_law_3053 : decode cL_law 3053 = .ok (.iconst 0, 1) := by decide +kernel
theorem dL_law_3054 : decode cL_law 3054 = .ok (.laload, 1) := by decide +kernel
theorem dL_law_3055 : decode cL_law 3055 = .ok (.iload 6, 2) := by decide +kernel
theorem dL_law_3057 : decode cL_law 3057 = .ok (.i2l, 1) := by decide +kernel
theorem dL_law_3058 : decode cL_law 3058 = .ok (.lcmp, 1) := by decide +kernel
theorem dL_law_3059 : decode cL_law 3059 = .ok (.ifCond .eq 5, 3) := by decide +kernel
theorem dL_law_3062 : decode cL_law 3062 = .ok (.iconst 0, 1) := by decide +kernel
theorem dL_law_3063 : decode cL_law 3063 = .ok (.ireturn, 1) := by decide +kernel
theorem dL_law_3064 : decode cL_law 3064 = .ok (.goto 691, 3) := by decide +kernel
theorem dL_law_3067 : decode cL_law 3067 = .ok (.aload_n 1, 1) := by decide +kernel
theorem dL_law_3068 : decode cL_law 3068 = .ok (.aload_n 0, 1) := by decide +kernel
theorem dL_law_3069 : decode cL_law 3069 = .ok (.iload 4, 2) := by decide +kernel
theorem dL_law_3071 : decode cL_law 3071 = .ok (.iconst 1, 1) := by decide +kernel
theorem dL_law_3072 : decode cL_law 3072 = .ok (.iadd, 1) := by decide +kernel
theorem dL_law_3073 : decode cL_law 3073 = .ok (.iaload, 1) := by decide +kernel
theorem dL_law_3074 : decode cL_law 3074 = .ok (.aload_n 3, 1) := by decide +kernel
theorem dL_law_3075 : decode cL_law 3075 = .ok (.invokestatic 330, 3) := by decide +kernel
theorem dL_law_3078 : decode cL_law 3078 = .ok (.istore 5, 2) := by decide +kernel
theorem dL_law_3080 : decode cL_law 3080 = .ok (.aload_n 2, 1) := by decide +kernel
theorem dL_law_3081 : decode cL_law 3081 = .ok (.aload_n 0, 1) := by decide +kernel
theorem dL_law_3082 : decode cL_law 3082 = .ok (.iload 4, 2) := by decide +kernel
theorem dL_law_3084 : decode cL_law 3084 = .ok (.iconst 1, 1) := by decide +kernel
theorem dL_law_3085 : decode cL_law 3085 = .ok (.iadd, 1) := by decide +kernel
theorem dL_law_3086 : decode cL_law 3086 = .ok (.iaload, 1) := by decide +kernel
theorem dL_law_3087 : decode cL_law 3087 = .ok (.invokevirtual 332, 3) := by decide +kernel
theorem dL_law_3090 : decode cL_law 3090 = .ok (.istore 6, 2) := by decide +kernel
theorem dL_law_3092 : decode cL_law 3092 = .ok (.aload_n 2, 1) := by decide +kernel
theorem dL_law_3093 : decode cL_law 3093 = .ok (.invokevirtual 184, 3) := by decide +kernel
theorem dL_law_3096 : decode cL_law 3096 = .ok (.iload 5, 2) := by decide +kernel
theorem dL_law_3098 : decode cL_law 3098 = .ok (.if_icmp .eq 5, 3) := by decide +kernel
theorem dL_law_3101 : decode cL_law 3101 = .ok (.iconst 0, 1) := by decide +kernel
theorem dL_law_3102 : decode cL_law 3102 = .ok (.ireturn, 1) := by decide +kernel
theorem dL_law_3103 : decode cL_law 3103 = .ok (.iload 5, 2) := by decide +kernel
theorem dL_law_3105 : decode cL_law 3105 = .ok (.ifCond .ne 15, 3) := by decide +kernel
theorem dL_law_3108 : decode cL_law 3108 = .ok (.aload_n 3, 1) := by decide +kernel
theorem dL_law_3109 : decode cL_law 3109 = .ok (.iconst 0, 1) := by decide +kernel
theorem dL_law_3110 : decode cL_law 3110 = .ok (.laload, 1) := by decide +kernel
theorem dL_law_3111 : decode cL_law 3111 = .ok (.iload 6, 2) := by decide +kernel
theorem dL_law_3113 : decode cL_law 3113 = .ok (.i2l, 1) := by decide +kernel
theorem dL_law_3114 : decode cL_law 3114 = .ok (.lcmp, 1) := by decide +kernel
theorem dL_law_3115 : decode cL_law 3115 = .ok (.ifCond .eq 5, 3) := by decide +kernel
theorem dL_law_3118 : decode cL_law 3118 = .ok (.iconst 0, 1) := by decide +kernel
theorem dL_law_3119 : decode cL_law 3119 = .ok (.ireturn, 1) := by decide +kernel
theorem dL_law_3120 : decode cL_law 3120 = .ok (.goto 635, 3) := by decide +kernel
theorem dL_law_3123 : decode cL_law 3123 = .ok (.aload_n 1, 1) := by decide +kernel
theorem dL_law_3124 : decode cL_law 3124 = .ok (.aload_n 0, 1) := by decide +kernel
theorem dL_law_3125 : decode cL_law 3125 = .ok (.iload 4, 2) := by decide +kernel
theorem dL_law_3127 : decode cL_law 3127 = .ok (.iconst 1, 1) := by decide +kernel
theorem dL_law_3128 : decode cL_law 3128 = .ok (.iadd, 1) := by decide +kernel
theorem dL_law_3129 : decode cL_law 3129 = .ok (.iaload, 1) := by decide +kernel
theorem dL_law_3130 : decode cL_law 3130 = .ok (.aload_n 0, 1) := by decide +kernel
theorem dL_law_3131 : decode cL_law 3131 = .ok (.iload 4, 2) := by decide +kernel
theorem dL_law_3133 : decode cL_law 3133 = .ok (.iconst 2, 1) := by decide +kernel
theorem dL_law_3134 : decode cL_law 3134 = .ok (.iadd, 1) := by decide +kernel
theorem dL_law_3135 : decode cL_law 3135 = .ok (.iaload, 1) := by decide +kernel
theorem dL_law_3136 : decode cL_law 3136 = .ok (.aload_n 3, 1) := by decide +kernel
theorem dL_law_3137 : decode cL_law 3137 = .ok (.invokestatic 333, 3) := by decide +kernel
theorem dL_law_3140 : decode cL_law 3140 = .ok (.istore 5, 2) := by decide +kernel
theorem dL_law_3142 : decode cL_law 3142 = .ok (.aload_n 2, 1) := by decide +kernel
theorem dL_law_3143 : decode cL_law 3143 = .ok (.aload_n 0, 1) := by decide +kernel
theorem dL_law_3144 : decode cL_law 3144 = .ok (.iload 4, 2) := by decide +kernel
theorem dL_law_3146 : decode cL_law 3146 = .ok (.iconst 1, 1) := by decide +kernel
theorem dL_law_3147 : decode cL_law 3147 = .ok (.iadd, 1) := by decide +kernel
theorem dL_law_3148 : decode cL_law 3148 = .ok (.iaload, 1) := by decide +kernel
theorem dL_law_3149 : decode cL_law 3149 = .ok (.aload_n 0, 1) := by decide +kernel
theorem dL_law_3150 : decode cL_law 3150 = .ok (.iload 4, 2) := by decide +kernel
theorem dL_law_3152 : decode cL_law 3152 = .ok (.iconst 2, 1) := by decide +kernel
theorem dL_law_3153 : decode cL_law 3153 = .ok (.iadd, 1) := by decide +kernel
theorem dL_law_3154 : decode cL_law 3154 = .ok (.iaload, 1) := by decide +kernel
theorem dL_law_3155 : decode cL_law 3155 = .ok (.invokevirtual 335, 3) := by decide +kernel
theorem dL_law_3158 : decode cL_law 3158 = .ok (.istore 6, 2) := by decide +kernel
theorem dL_law_3160 : decode cL_law 3160 = .ok (.aload_n 2, 1) := by decide +kernel
theorem dL_law_3161 : decode cL_law 3161 = .ok (.invokevirtual 184, 3) := by decide +kernel
theorem dL_law_3164 : decode cL_law 3164 = .ok (.iload 5, 2) := by decide +kernel
theorem dL_law_3166 : decode cL_law 3166 = .ok (.if_icmp .eq 5, 3) := by decide +kernel
theorem dL_law_3169 : decode cL_law 3169 = .ok (.iconst 0, 1) := by decide +kernel
theorem dL_law_3170 : decode cL_law 3170 = .ok (.ireturn, 1) := by decide +kernel
theorem dL_law_3171 : decode cL_law 3171 = .ok (.iload 5, 2) := by decide +kernel
theorem dL_law_3173 : decode cL_law 3173 = .ok (.ifCond .ne 15, 3) := by decide +kernel
theorem dL_law_3176 : decode cL_law 3176 = .ok (.aload_n 3, 1) := by decide +kernel
theorem dL_law_3177 : decode cL_law 3177 = .ok (.iconst 0, 1) := by decide +kernel
theorem dL_law_3178 : decode cL_law 3178 = .ok (.laload, 1) := by decide +kernel
theorem dL_law_3179 : decode cL_law 3179 = .ok (.iload 6, 2) := by decide +kernel
theorem dL_law_3181 : decode cL_law 3181 = .ok (.i2l, 1) := by decide +kernel
theorem dL_law_3182 : decode cL_law 3182 = .ok (.lcmp, 1) := by decide +kernel
theorem dL_law_3183 : decode cL_law 3183 = .ok (.ifCond .eq 5, 3) := by decide +kernel
theorem dL_law_3186 : decode cL_law 3186 = .ok (.iconst 0, 1) := by decide +kernel
theorem dL_law_3187 : decode cL_law 3187 = .ok (.ireturn, 1) := by decide +kernel
theorem dL_law_3188 : decode cL_law 3188 = .ok (.goto 567, 3) := by decide +kernel
theorem dL_law_3191 : decode cL_law 3191 = .ok (.aload_n 1, 1) := by decide +kernel
theorem dL_law_3192 : decode cL_law 3192 = .ok (.aload_n 0, 1) := by decide +kernel
theorem dL_law_3193 : decode cL_law 3193 = .ok (.iload 4, 2) := by decide +kernel
theorem dL_law_3195 : decode cL_law 3195 = .ok (.iconst 1, 1) := by decide +kernel
theorem dL_law_3196 : decode cL_law 3196 = .ok (.iadd, 1) := by decide +kernel
theorem dL_law_3197 : decode cL_law 3197 = .ok (.iaload, 1) := by decide +kernel
theorem dL_law_3198 : decode cL_law 3198 = .ok (.aload_n 0, 1) := by decide +kernel
theorem dL_law_3199 : decode cL_law 3199 = .ok (.iload 4, 2) := by decide +kernel
theorem dL_law_3201 : decode cL_law 3201 = .ok (.iconst 2, 1) := by decide +kernel
theorem dL_law_3202 : decode cL_law 3202 = .ok (.iadd, 1) := by decide +kernel
theorem dL_law_3203 : decode cL_law 3203 = .ok (.iaload, 1) := by decide +kernel
theorem dL_law_3204 : decode cL_law 3204 = .ok (.aload_n 3, 1) := by decide +kernel
theorem dL_law_3205 : decode cL_law 3205 = .ok (.invokestatic 336, 3) := by decide +kernel
theorem dL_law_3208 : decode cL_law 3208 = .ok (.istore 5, 2) := by decide +kernel
theorem dL_law_3210 : decode cL_law 3210 = .ok (.aload_n 2, 1) := by decide +kernel
theorem dL_law_3211 : decode cL_law 3211 = .ok (.aload_n 0, 1) := by decide +kernel
theorem dL_law_3212 : decode cL_law 3212 = .ok (.iload 4, 2) := by decide +kernel
theorem dL_law_3214 : decode cL_law 3214 = .ok (.iconst 1, 1) := by decide +kernel
theorem dL_law_3215 : decode cL_law 3215 = .ok (.iadd, 1) := by decide +kernel
theorem dL_law_3216 : decode cL_law 3216 = .ok (.iaload, 1) := by decide +kernel
theorem dL_law_3217 : decode cL_law 3217 = .ok (.aload_n 0, 1) := by decide +kernel
theorem dL_law_3218 : decode cL_law 3218 = .ok (.iload 4, 2) := by decide +kernel
theorem dL_law_3220 : decode cL_law 3220 = .ok (.iconst 2, 1) := by decide +kernel
theorem dL_law_3221 : decode cL_law 3221 = .ok (.iadd, 1) := by decide +kernel
theorem dL_law_3222 : decode cL_law 3222 = .ok (.iaload, 1) := by decide +kernel
theorem dL_law_3223 : decode cL_law 3223 = .ok (.invokevirtual 338, 3) := by decide +kernel
theorem dL_law_3226 : decode cL_law 3226 = .ok (.istore 6, 2) := by decide +kernel
theorem dL_law_3228 : decode cL_law 3228 = .ok (.aload_n 2, 1) := by decide +kernel
theorem dL_law_3229 : decode cL_law 3229 = .ok (.invokevirtual 184, 3) := by decide +kernel
theorem dL_law_3232 : decode cL_law 3232 = .ok (.iload 5, 2) := by decide +kernel
theorem dL_law_3234 : decode cL_law 3234 = .ok (.if_icmp .eq 5, 3) := by decide +kernel
theorem dL_law_3237 : decode cL_law 3237 = .ok (.iconst 0, 1) := by decide +kernel
theorem dL_law_3238 : decode cL_law 3238 = .ok (.ireturn, 1) := by decide +kernel
theorem dL_law_3239 : decode cL_law 3239 = .ok (.iload 5, 2) := by decide +kernel
theorem dL_law_3241 : decode cL_law 3241 = .ok (.ifCond .ne 15, 3) := by decide +kernel
theorem dL_law_3244 : decode cL_law 3244 = .ok (.aload_n 3, 1) := by decide +kernel
theorem dL_law_3245 : decode cL_law 3245 = .ok (.iconst 0, 1) := by decide +kernel
theorem dL_law_3246 : decode cL_law 3246 = .ok (.laload, 1) := by decide +kernel
theorem dL_law_3247 : decode cL_law 3247 = .ok (.iload 6, 2) := by decide +kernel
theorem dL_law_3249 : decode cL_law 3249 = .ok (.i2l, 1) := by decide +kernel
theorem dL_law_3250 : decode cL_law 3250 = .ok (.lcmp, 1) := by decide +kernel
theorem dL_law_3251 : decode cL_law 3251 = .ok (.ifCond .eq 5, 3) := by decide +kernel
theorem dL_law_3254 : decode cL_law 3254 = .ok (.iconst 0, 1) := by decide +kernel
theorem dL_law_3255 : decode cL_law 3255 = .ok (.ireturn, 1) := by decide +kernel
theorem dL_law_3256 : decode cL_law 3256 = .ok (.goto 499, 3) := by decide +kernel
theorem dL_law_3259 : decode cL_law 3259 = .ok (.aload_n 1, 1) := by decide +kernel
theorem dL_law_3260 : decode cL_law 3260 = .ok (.aload_n 0, 1) := by decide +kernel
theorem dL_law_3261 : decode cL_law 3261 = .ok (.iload 4, 2) := by decide +kernel
theorem dL_law_3263 : decode cL_law 3263 = .ok (.iconst 1, 1) := by decide +kernel
theorem dL_law_3264 : decode cL_law 3264 = .ok (.iadd, 1) := by decide +kernel
theorem dL_law_3265 : decode cL_law 3265 = .ok (.iaload, 1) := by decide +kernel
theorem dL_law_3266 : decode cL_law 3266 = .ok (.aload_n 3, 1) := by decide +kernel
theorem dL_law_3267 : decode cL_law 3267 = .ok (.invokestatic 339, 3) := by decide +kernel
theorem dL_law_3270 : decode cL_law 3270 = .ok (.istore 5, 2) := by decide +kernel
theorem dL_law_3272 : decode cL_law 3272 = .ok (.aload_n 2, 1) := by decide +kernel
theorem dL_law_3273 : decode cL_law 3273 = .ok (.aload_n 0, 1) := by decide +kernel
theorem dL_law_3274 : decode cL_law 3274 = .ok (.iload 4, 2) := by decide +kernel
theorem dL_law_3276 : decode cL_law 3276 = .ok (.iconst 1, 1) := by decide +kernel
theorem dL_law_3277 : decode cL_law 3277 = .ok (.iadd, 1) := by decide +kernel
theorem dL_law_3278 : decode cL_law 3278 = .ok (.iaload, 1) := by decide +kernel
theorem dL_law_3279 : decode cL_law 3279 = .ok (.invokevirtual 341, 3) := by decide +kernel
theorem dL_law_3282 : decode cL_law 3282 = .ok (.istore 6, 2) := by decide +kernel
theorem dL_law_3284 : decode cL_law 3284 = .ok (.aload_n 2, 1) := by decide +kernel
theorem dL_law_3285 : decode cL_law 3285 = .ok (.invokevirtual 184, 3) := by decide +kernel
theorem dL_law_3288 : decode cL_law 3288 = .ok (.iload 5, 2) := by decide +kernel
theorem dL_law_3290 : decode cL_law 3290 = .ok (.if_icmp .eq 5, 3) := by decide +kernel
theorem dL_law_3293 : decode cL_law 3293 = .ok (.iconst 0, 1) := by decide +kernel
theorem dL_law_3294 : decode cL_law 3294 = .ok (.ireturn, 1) := by decide +kernel
theorem dL_law_3295 : decode cL_law 3295 = .ok (.iload 5, 2) := by decide +kernel
theorem dL_law_3297 : decode cL_law 3297 = .ok (.ifCond .ne 15, 3) := by decide +kernel
theorem dL_law_3300 : decode cL_law 3300 = .ok (.aload_n 3, 1) := by decide +kernel
theorem dL_law_3301 : decode cL_law 3301 = .ok (.iconst 0, 1) := by decide +kernel
theorem dL_law_3302 : decode cL_law 3302 = .ok (.laload, 1) := by decide +kernel
theorem dL_law_3303 : decode cL_law 3303 = .ok (.iload 6, 2) := by decide +kernel
theorem dL_law_3305 : decode cL_law 3305 = .ok (.i2l, 1) := by decide +kernel
theorem dL_law_3306 : decode cL_law 3306 = .ok (.lcmp, 1) := by decide +kernel
theorem dL_law_3307 : decode cL_law 3307 = .ok (.ifCond .eq 5, 3) := by decide +kernel
theorem dL_law_3310 : decode cL_law 3310 = .ok (.iconst 0, 1) := by decide +kernel
theorem dL_law_3311 : decode cL_law 3311 = .ok (.ireturn, 1) := by decide +kernel
theorem dL_law_3312 : decode cL_law 3312 = .ok (.goto 443, 3) := by decide +kernel
theorem dL_law_3315 : decode cL_law 3315 = .ok (.aload_n 1, 1) := by decide +kernel
theorem dL_law_3316 : decode cL_law 3316 = .ok (.aload_n 0, 1) := by decide +kernel
theorem dL_law_3317 : decode cL_law 3317 = .ok (.iload 4, 2) := by decide +kernel
theorem dL_law_3319 : decode cL_law 3319 = .ok (.iconst 1, 1) := by decide +kernel
theorem dL_law_3320 : decode cL_law 3320 = .ok (.iadd, 1) := by decide +kernel
theorem dL_law_3321 : decode cL_law 3321 = .ok (.iaload, 1) := by decide +kernel
theorem dL_law_3322 : decode cL_law 3322 = .ok (.aload_n 0, 1) := by decide +kernel
theorem dL_law_3323 : decode cL_law 3323 = .ok (.iload 4, 2) := by decide +kernel
theorem dL_law_3325 : decode cL_law 3325 = .ok (.iconst 2, 1) := by decide +kernel
theorem dL_law_3326 : decode cL_law 3326 = .ok (.iadd, 1) := by decide +kernel
theorem dL_law_3327 : decode cL_law 3327 = .ok (.iaload, 1) := by decide +kernel
theorem dL_law_3328 : decode cL_law 3328 = .ok (.aload_n 3, 1) := by decide +kernel
theorem dL_law_3329 : decode cL_law 3329 = .ok (.invokestatic 342, 3) := by decide +kernel
theorem dL_law_3332 : decode cL_law 3332 = .ok (.istore 5, 2) := by decide +kernel
theorem dL_law_3334 : decode cL_law 3334 = .ok (.aload_n 2, 1) := by decide +kernel
theorem dL_law_3335 : decode cL_law 3335 = .ok (.aload_n 0, 1) := by decide +kernel
theorem dL_law_3336 : decode cL_law 3336 = .ok (.iload 4, 2) := by decide +kernel
theorem dL_law_3338 : decode cL_law 3338 = .ok (.iconst 1, 1) := by decide +kernel
theorem dL_law_3339 : decode cL_law 3339 = .ok (.iadd, 1) := by decide +kernel
theorem dL_law_3340 : decode cL_law 3340 = .ok (.iaload, 1) := by decide +kernel
theorem dL_law_3341 : decode cL_law 3341 = .ok (.aload_n 0, 1) := by decide +kernel
theorem dL_law_3342 : decode cL_law 3342 = .ok (.iload 4, 2) := by decide +kernel
theorem dL_law_3344 : decode cL_law 3344 = .ok (.iconst 2, 1) := by decide +kernel
theorem dL_law_3345 : decode cL_law 3345 = .ok (.iadd, 1) := by decide +kernel
theorem dL_law_3346 : decode cL_law 3346 = .ok (.iaload, 1) := by decide +kernel
theorem dL_law_3347 : decode cL_law 3347 = .ok (.invokevirtual 344, 3) := by decide +kernel
theorem dL_law_3350 : decode cL_law 3350 = .ok (.istore 6, 2) := by decide +kernel
theorem dL_law_3352 : decode cL_law 3352 = .ok (.aload_n 2, 1) := by decide +kernel
theorem dL_law_3353 : decode cL_law 3353 = .ok (.invokevirtual 184, 3) := by decide +kernel
theorem dL_law_3356 : decode cL_law 3356 = .ok (.iload 5, 2) := by decide +kernel
theorem dL_law_3358 : decode cL_law 3358 = .ok (.if_icmp .eq 5, 3) := by decide +kernel
theorem dL_law_3361 : decode cL_law 3361 = .ok (.iconst 0, 1) := by decide +kernel
theorem dL_law_3362 : decode cL_law 3362 = .ok (.ireturn, 1) := by decide +kernel
theorem dL_law_3363 : decode cL_law 3363 = .ok (.iload 5, 2) := by decide +kernel
theorem dL_law_3365 : decode cL_law 3365 = .ok (.ifCond .ne 15, 3) := by decide +kernel
theorem dL_law_3368 : decode cL_law 3368 = .ok (.aload_n 3, 1) := by decide +kernel
theorem dL_law_3369 : decode cL_law 3369 = .ok (.iconst 0, 1) := by decide +kernel
theorem dL_law_3370 : decode cL_law 3370 = .ok (.laload, 1) := by decide +kernel
theorem dL_law_3371 : decode cL_law 3371 = .ok (.iload 6, 2) := by decide +kernel
theorem dL_law_3373 : decode cL_law 3373 = .ok (.i2l, 1) := by decide +kernel
theorem dL_law_3374 : decode cL_law 3374 = .ok (.lcmp, 1) := by decide +kernel
theorem dL_law_3375 : decode cL_law 3375 = .ok (.ifCond .eq 5, 3) := by decide +kernel
theorem dL_law_3378 : decode cL_law 3378 = .ok (.iconst 0, 1) := by decide +kernel
theorem dL_law_3379 : decode cL_law 3379 = .ok (.ireturn, 1) := by decide +kernel
theorem dL_law_3380 : decode cL_law 3380 = .ok (.goto 375, 3) := by decide +kernel
theorem dL_law_3383 : decode cL_law 3383 = .ok (.aload_n 1, 1) := by decide +kernel
theorem dL_law_3384 : decode cL_law 3384 = .ok (.aload_n 0, 1) := by decide +kernel
theorem dL_law_3385 : decode cL_law 3385 = .ok (.iload 4, 2) := by decide +kernel
theorem dL_law_3387 : decode cL_law 3387 = .ok (.iconst 1, 1) := by decide +kernel
theorem dL_law_3388 : decode cL_law 3388 = .ok (.iadd, 1) := by decide +kernel
theorem dL_law_3389 : decode cL_law 3389 = .ok (.iaload, 1) := by decide +kernel
theorem dL_law_3390 : decode cL_law 3390 = .ok (.aload_n 0, 1) := by decide +kernel
theorem dL_law_3391 : decode cL_law 3391 = .ok (.iload 4, 2) := by decide +kernel
theorem dL_law_3393 : decode cL_law 3393 = .ok (.iconst 2, 1) := by decide +kernel
theorem dL_law_3394 : decode cL_law 3394 = .ok (.iadd, 1) := by decide +kernel
theorem dL_law_3395 : decode cL_law 3395 = .ok (.iaload, 1) := by decide +kernel
theorem dL_law_3396 : decode cL_law 3396 = .ok (.aload_n 3, 1) := by decide +kernel
theorem dL_law_3397 : decode cL_law 3397 = .ok (.invokestatic 345, 3) := by decide +kernel
theorem dL_law_3400 : decode cL_law 3400 = .ok (.istore 5, 2) := by decide +kernel
theorem dL_law_3402 : decode cL_law 3402 = .ok (.aload_n 2, 1) := by decide +kernel
theorem dL_law_3403 : decode cL_law 3403 = .ok (.aload_n 0, 1) := by decide +kernel
theorem dL_law_3404 : decode cL_law 3404 = .ok (.iload 4, 2) := by decide +kernel
theorem dL_law_3406 : decode cL_law 3406 = .ok (.iconst 1, 1) := by decide +kernel
theorem dL_law_3407 : decode cL_law 3407 = .ok (.iadd, 1) := by decide +kernel
theorem dL_law_3408 : decode cL_law 3408 = .ok (.iaload, 1) := by decide +kernel
theorem dL_law_3409 : decode cL_law 3409 = .ok (.aload_n 0, 1) := by decide +kernel
theorem dL_law_3410 : decode cL_law 3410 = .ok (.iload 4, 2) := by decide +kernel
theorem dL_law_3412 : decode cL_law 3412 = .ok (.iconst 2, 1) := by decide +kernel
theorem dL_law_3413 : decode cL_law 3413 = .ok (.iadd, 1) := by decide +kernel
theorem dL_law_3414 : decode cL_law 3414 = .ok (.iaload, 1) := by decide +kernel
theorem dL_law_3415 : decode cL_law 3415 = .ok (.invokevirtual 347, 3) := by decide +kernel
theorem dL_law_3418 : decode cL_law 3418 = .ok (.istore 6, 2) := by decide +kernel
theorem dL_law_3420 : decode cL_law 3420 = .ok (.aload_n 2, 1) := by decide +kernel
theorem dL_law_3421 : decode cL_law 3421 = .ok (.invokevirtual 184, 3) := by decide +kernel
theorem dL_law_3424 : decode cL_law 3424 = .ok (.iload 5, 2) := by decide +kernel
theorem dL_law_3426 : decode cL_law 3426 = .ok (.if_icmp .eq 5, 3) := by decide +kernel
theorem dL_law_3429 : decode cL_law 3429 = .ok (.iconst 0, 1) := by decide +kernel
theorem dL_law_3430 : decode cL_law 3430 = .ok (.ireturn, 1) := by decide +kernel
theorem dL_law_3431 : decode cL_law 3431 = .ok (.iload 5, 2) := by decide +kernel
theorem dL_law_3433 : decode cL_law 3433 = .ok (.ifCond .ne 15, 3) := by decide +kernel
theorem dL_law_3436 : decode cL_law 3436 = .ok (.aload_n 3, 1) := by decide +kernel
theorem dL_law_3437 : decode cL_law 3437 = .ok (.iconst 0, 1) := by decide +kernel
theorem dL_law_3438 : decode cL_law 3438 = .ok (.laload, 1) := by decide +kernel
theorem dL_law_3439 : decode cL_law 3439 = .ok (.iload 6, 2) := by decide +kernel
theorem dL_law_3441 : decode cL_law 3441 = .ok (.i2l, 1) := by decide +kernel
theorem dL_law_3442 : decode cL_law 3442 = .ok (.lcmp, 1) := by decide +kernel
theorem dL_law_3443 : decode cL_law 3443 = .ok (.ifCond .eq 5, 3) := by decide +kernel
theorem dL_law_3446 : decode cL_law 3446 = .ok (.iconst 0, 1) := by decide +kernel
theorem dL_law_3447 : decode cL_law 3447 = .ok (.ireturn, 1) := by decide +kernel
theorem dL_law_3448 : decode cL_law 3448 = .ok (.goto 307, 3) := by decide +kernel
theorem dL_law_3451 : decode cL_law 3451 = .ok (.aload_n 1, 1) := by decide +kernel
theorem dL_law_3452 : decode cL_law 3452 = .ok (.aload_n 0, 1) := by decide +kernel
theorem dL_law_3453 : decode cL_law 3453 = .ok (.iload 4, 2) := by decide +kernel
theorem dL_law_3455 : decode cL_law 3455 = .ok (.iconst 1, 1) := by decide +kernel
theorem dL_law_3456 : decode cL_law 3456 = .ok (.iadd, 1) := by decide +kernel
theorem dL_law_3457 : decode cL_law 3457 = .ok (.iaload, 1) := by decide +kernel
theorem dL_law_3458 : decode cL_law 3458 = .ok (.aload_n 0, 1) := by decide +kernel
theorem dL_law_3459 : decode cL_law 3459 = .ok (.iload 4, 2) := by decide +kernel
theorem dL_law_3461 : decode cL_law 3461 = .ok (.iconst 2, 1) := by decide +kernel
theorem dL_law_3462 : decode cL_law 3462 = .ok (.iadd, 1) := by decide +kernel
theorem dL_law_3463 : decode cL_law 3463 = .ok (.iaload, 1) := by decide +kernel
theorem dL_law_3464 : decode cL_law 3464 = .ok (.aload_n 3, 1) := by decide +kernel
theorem dL_law_3465 : decode cL_law 3465 = .ok (.invokestatic 348, 3) := by decide +kernel
theorem dL_law_3468 : decode cL_law 3468 = .ok (.istore 5, 2) := by decide +kernel
theorem dL_law_3470 : decode cL_law 3470 = .ok (.aload_n 2, 1) := by decide +kernel
theorem dL_law_3471 : decode cL_law 3471 = .ok (.aload_n 0, 1) := by decide +kernel
theorem dL_law_3472 : decode cL_law 3472 = .ok (.iload 4, 2) := by decide +kernel
theorem dL_law_3474 : decode cL_law 3474 = .ok (.iconst 1, 1) := by decide +kernel
theorem dL_law_3475 : decode cL_law 3475 = .ok (.iadd, 1) := by decide +kernel
theorem dL_law_3476 : decode cL_law 3476 = .ok (.iaload, 1) := by decide +kernel
theorem dL_law_3477 : decode cL_law 3477 = .ok (.aload_n 0, 1) := by decide +kernel
theorem dL_law_3478 : decode cL_law 3478 = .ok (.iload 4, 2) := by decide +kernel
theorem dL_law_3480 : decode cL_law 3480 = .ok (.iconst 2, 1) := by decide +kernel
theorem dL_law_3481 : decode cL_law 3481 = .ok (.iadd, 1) := by decide +kernel
theorem dL_law_3482 : decode cL_law 3482 = .ok (.iaload, 1) := by decide +kernel
theorem dL_law_3483 : decode cL_law 3483 = .ok (.invokevirtual 350, 3) := by decide +kernel
theorem dL_law_3486 : decode cL_law 3486 = .ok (.istore 6, 2) := by decide +kernel
theorem dL_law_3488 : decode cL_law 3488 = .ok (.aload_n 2, 1) := by decide +kernel
theorem dL_law_3489 : decode cL_law 3489 = .ok (.invokevirtual 184, 3) := by decide +kernel
theorem dL_law_3492 : decode cL_law 3492 = .ok (.iload 5, 2) := by decide +kernel
theorem dL_law_3494 : decode cL_law 3494 = .ok (.if_icmp .eq 5, 3) := by decide +kernel
theorem dL_law_3497 : decode cL_law 3497 = .ok (.iconst 0, 1) := by decide +kernel
theorem dL_law_3498 : decode cL_law 3498 = .ok (.ireturn, 1) := by decide +kernel
theorem dL_law_3499 : decode cL_law 3499 = .ok (.iload 5, 2) := by decide +kernel
theorem dL_law_3501 : decode cL_law 3501 = .ok (.ifCond .ne 15, 3) := by decide +kernel
theorem dL_law_3504 : decode cL_law 3504 = .ok (.aload_n 3, 1) := by decide +kernel
theorem dL_law_3505 : decode cL_law 3505 = .ok (.iconst 0, 1) := by decide +kernel
theorem dL_law_3506 : decode cL_law 3506 = .ok (.laload, 1) := by decide +kernel
theorem dL_law_3507 : decode cL_law 3507 = .ok (.iload 6, 2) := by decide +kernel
theorem dL_law_3509 : decode cL_law 3509 = .ok (.i2l, 1) := by decide +kernel
theorem dL_law_3510 : decode cL_law 3510 = .ok (.lcmp, 1) := by decide +kernel
theorem dL_law_3511 : decode cL_law 3511 = .ok (.ifCond .eq 5, 3) := by decide +kernel
theorem dL_law_3514 : decode cL_law 3514 = .ok (.iconst 0, 1) := by decide +kernel
theorem dL_law_3515 : decode cL_law 3515 = .ok (.ireturn, 1) := by decide +kernel
theorem dL_law_3516 : decode cL_law 3516 = .ok (.goto 239, 3) := by decide +kernel
theorem dL_law_3519 : decode cL_law 3519 = .ok (.aload_n 1, 1) := by decide +kernel
theorem dL_law_3520 : decode cL_law 3520 = .ok (.aload_n 0, 1) := by decide +kernel
theorem dL_law_3521 : decode cL_law 3521 = .ok (.iload 4, 2) := by decide +kernel
theorem dL_law_3523 : decode cL_law 3523 = .ok (.iconst 1, 1) := by decide +kernel
theorem dL_law_3524 : decode cL_law 3524 = .ok (.iadd, 1) := by decide +kernel
theorem dL_law_3525 : decode cL_law 3525 = .ok (.iaload, 1) := by decide +kernel
theorem dL_law_3526 : decode cL_law 3526 = .ok (.aload_n 3, 1) := by decide +kernel
theorem dL_law_3527 : decode cL_law 3527 = .ok (.invokestatic 351, 3) := by decide +kernel
theorem dL_law_3530 : decode cL_law 3530 = .ok (.istore 5, 2) := by decide +kernel
theorem dL_law_3532 : decode cL_law 3532 = .ok (.aload_n 2, 1) := by decide +kernel
theorem dL_law_3533 : decode cL_law 3533 = .ok (.aload_n 0, 1) := by decide +kernel
theorem dL_law_3534 : decode cL_law 3534 = .ok (.iload 4, 2) := by decide +kernel
theorem dL_law_3536 : decode cL_law 3536 = .ok (.iconst 1, 1) := by decide +kernel
theorem dL_law_3537 : decode cL_law 3537 = .ok (.iadd, 1) := by decide +kernel
theorem dL_law_3538 : decode cL_law 3538 = .ok (.iaload, 1) := by decide +kernel
theorem dL_law_3539 : decode cL_law 3539 = .ok (.invokevirtual 353, 3) := by decide +kernel
theorem dL_law_3542 : decode cL_law 3542 = .ok (.istore 6, 2) := by decide +kernel
theorem dL_law_3544 : decode cL_law 3544 = .ok (.aload_n 2, 1) := by decide +kernel
theorem dL_law_3545 : decode cL_law 3545 = .ok (.invokevirtual 184, 3) := by decide +kernel
theorem dL_law_3548 : decode cL_law 3548 = .ok (.iload 5, 2) := by decide +kernel
theorem dL_law_3550 : decode cL_law 3550 = .ok (.if_icmp .eq 5, 3) := by decide +kernel
theorem dL_law_3553 : decode cL_law 3553 = .ok (.iconst 0, 1) := by decide +kernel
theorem dL_law_3554 : decode cL_law 3554 = .ok (.ireturn, 1) := by decide +kernel
theorem dL_law_3555 : decode cL_law 3555 = .ok (.iload 5, 2) := by decide +kernel
theorem dL_law_3557 : decode cL_law 3557 = .ok (.ifCond .ne 15, 3) := by decide +kernel
theorem dL_law_3560 : decode cL_law 3560 = .ok (.aload_n 3, 1) := by decide +kernel
theorem dL_law_3561 : decode cL_law 3561 = .ok (.iconst 0, 1) := by decide +kernel
theorem dL_law_3562 : decode cL_law 3562 = .ok (.laload, 1) := by decide +kernel
theorem dL_law_3563 : decode cL_law 3563 = .ok (.iload 6, 2) := by decide +kernel
theorem dL_law_3565 : decode cL_law 3565 = .ok (.i2l, 1) := by decide +kernel
theorem dL_law_3566 : decode cL_law 3566 = .ok (.lcmp, 1) := by decide +kernel
theorem dL_law_3567 : decode cL_law 3567 = .ok (.ifCond .eq 5, 3) := by decide +kernel
theorem dL_law_3570 : decode cL_law 3570 = .ok (.iconst 0, 1) := by decide +kernel
theorem dL_law_3571 : decode cL_law 3571 = .ok (.ireturn, 1) := by decide +kernel
theorem dL_law_3572 : decode cL_law 3572 = .ok (.goto 183, 3) := by decide +kernel
theorem dL_law_3575 : decode cL_law 3575 = .ok (.aload_n 1, 1) := by decide +kernel
theorem dL_law_3576 : decode cL_law 3576 = .ok (.aload_n 0, 1) := by decide +kernel
theorem dL_law_3577 : decode cL_law 3577 = .ok (.iload 4, 2) := by decide +kernel
theorem dL_law_3579 : decode cL_law 3579 = .ok (.iconst 1, 1) := by decide +kernel
theorem dL_law_3580 : decode cL_law 3580 = .ok (.iadd, 1) := by decide +kernel
theorem dL_law_3581 : decode cL_law 3581 = .ok (.iaload, 1) := by decide +kernel
theorem dL_law_3582 : decode cL_law 3582 = .ok (.aload_n 3, 1) := by decide +kernel
theorem dL_law_3583 : decode cL_law 3583 = .ok (.invokestatic 354, 3) := by decide +kernel
theorem dL_law_3586 : decode cL_law 3586 = .ok (.istore 5, 2) := by decide +kernel
theorem dL_law_3588 : decode cL_law 3588 = .ok (.aload_n 2, 1) := by decide +kernel
theorem dL_law_3589 : decode cL_law 3589 = .ok (.aload_n 0, 1) := by decide +kernel
theorem dL_law_3590 : decode cL_law 3590 = .ok (.iload 4, 2) := by decide +kernel
theorem dL_law_3592 : decode cL_law 3592 = .ok (.iconst 1, 1) := by decide +kernel
theorem dL_law_3593 : decode cL_law 3593 = .ok (.iadd, 1) := by decide +kernel
theorem dL_law_3594 : decode cL_law 3594 = .ok (.iaload, 1) := by decide +kernel
theorem dL_law_3595 : decode cL_law 3595 = .ok (.invokevirtual 356, 3) := by decide +kernel
theorem dL_law_3598 : decode cL_law 3598 = .ok (.istore 6, 2) := by decide +kernel
theorem dL_law_3600 : decode cL_law 3600 = .ok (.aload_n 2, 1) := by decide +kernel
theorem dL_law_3601 : decode cL_law 3601 = .ok (.invokevirtual 184, 3) := by decide +kernel
theorem dL_law_3604 : decode cL_law 3604 = .ok (.iload 5, 2) := by decide +kernel
theorem dL_law_3606 : decode cL_law 3606 = .ok (.if_icmp .eq 5, 3) := by decide +kernel
theorem dL_law_3609 : decode cL_law 3609 = .ok (.iconst 0, 1) := by decide +kernel
theorem dL_law_3610 : decode cL_law 3610 = .ok (.ireturn, 1) := by decide +kernel
theorem dL_law_3611 : decode cL_law 3611 = .ok (.iload 5, 2) := by decide +kernel
theorem dL_law_3613 : decode cL_law 3613 = .ok (.ifCond .ne 15, 3) := by decide +kernel
theorem dL_law_3616 : decode cL_law 3616 = .ok (.aload_n 3, 1) := by decide +kernel
theorem dL_law_3617 : decode cL_law 3617 = .ok (.iconst 0, 1) := by decide +kernel
theorem dL_law_3618 : decode cL_law 3618 = .ok (.laload, 1) := by decide +kernel
theorem dL_law_3619 : decode cL_law 3619 = .ok (.iload 6, 2) := by decide +kernel
theorem dL_law_3621 : decode cL_law 3621 = .ok (.i2l, 1) := by decide +kernel
theorem dL_law_3622 : decode cL_law 3622 = .ok (.lcmp, 1) := by decide +kernel
theorem dL_law_3623 : decode cL_law 3623 = .ok (.ifCond .eq 5, 3) := by decide +kernel
theorem dL_law_3626 : decode cL_law 3626 = .ok (.iconst 0, 1) := by decide +kernel
theorem dL_law_3627 : decode cL_law 3627 = .ok (.ireturn, 1) := by decide +kernel
theorem dL_law_3628 : decode cL_law 3628 = .ok (.goto 127, 3) := by decide +kernel
theorem dL_law_3631 : decode cL_law 3631 = .ok (.aload_n 1, 1) := by decide +kernel
theorem dL_law_3632 : decode cL_law 3632 = .ok (.aload_n 0, 1) := by decide +kernel
theorem dL_law_3633 : decode cL_law 3633 = .ok (.iload 4, 2) := by decide +kernel
theorem dL_law_3635 : decode cL_law 3635 = .ok (.iconst 1, 1) := by decide +kernel
theorem dL_law_3636 : decode cL_law 3636 = .ok (.iadd, 1) := by decide +kernel
theorem dL_law_3637 : decode cL_law 3637 = .ok (.iaload, 1) := by decide +kernel
theorem dL_law_3638 : decode cL_law 3638 = .ok (.aload_n 0, 1) := by decide +kernel
theorem dL_law_3639 : decode cL_law 3639 = .ok (.iload 4, 2) := by decide +kernel
theorem dL_law_3641 : decode cL_law 3641 = .ok (.iconst 2, 1) := by decide +kernel
theorem dL_law_3642 : decode cL_law 3642 = .ok (.iadd, 1) := by decide +kernel
theorem dL_law_3643 : decode cL_law 3643 = .ok (.iaload, 1) := by decide +kernel
theorem dL_law_3644 : decode cL_law 3644 = .ok (.aload_n 0, 1) := by decide +kernel
theorem dL_law_3645 : decode cL_law 3645 = .ok (.iload 4, 2) := by decide +kernel
theorem dL_law_3647 : decode cL_law 3647 = .ok (.iconst 3, 1) := by decide +kernel
theorem dL_law_3648 : decode cL_law 3648 = .ok (.iadd, 1) := by decide +kernel
theorem dL_law_3649 : decode cL_law 3649 = .ok (.iaload, 1) := by decide +kernel
theorem dL_law_3650 : decode cL_law 3650 = .ok (.ifCond .eq 7, 3) := by decide +kernel
theorem dL_law_3653 : decode cL_law 3653 = .ok (.iconst 1, 1) := by decide +kernel
theorem dL_law_3654 : decode cL_law 3654 = .ok (.goto 4, 3) := by decide +kernel
theorem dL_law_3657 : decode cL_law 3657 = .ok (.iconst 0, 1) := by decide +kernel
theorem dL_law_3658 : decode cL_law 3658 = .ok (.aload_n 0, 1) := by decide +kernel
theorem dL_law_3659 : decode cL_law 3659 = .ok (.iload 4, 2) := by decide +kernel
theorem dL_law_3661 : decode cL_law 3661 = .ok (.iconst 4, 1) := by decide +kernel
theorem dL_law_3662 : decode cL_law 3662 = .ok (.iadd, 1) := by decide +kernel
theorem dL_law_3663 : decode cL_law 3663 = .ok (.iaload, 1) := by decide +kernel
theorem dL_law_3664 : decode cL_law 3664 = .ok (.ifCond .eq 7, 3) := by decide +kernel
theorem dL_law_3667 : decode cL_law 3667 = .ok (.iconst 1, 1) := by decide +kernel
theorem dL_law_3668 : decode cL_law 3668 = .ok (.goto 4, 3) := by decide +kernel
theorem dL_law_3671 : decode cL_law 3671 = .ok (.iconst 0, 1) := by decide +kernel
theorem dL_law_3672 : decode cL_law 3672 = .ok (.aload_n 3, 1) := by decide +kernel
theorem dL_law_3673 : decode cL_law 3673 = .ok (.invokestatic 357, 3) := by decide +kernel
theorem dL_law_3676 : decode cL_law 3676 = .ok (.istore 5, 2) := by decide +kernel
theorem dL_law_3678 : decode cL_law 3678 = .ok (.aload_n 2, 1) := by decide +kernel
theorem dL_law_3679 : decode cL_law 3679 = .ok (.aload_n 0, 1) := by decide +kernel
theorem dL_law_3680 : decode cL_law 3680 = .ok (.iload 4, 2) := by decide +kernel
theorem dL_law_3682 : decode cL_law 3682 = .ok (.iconst 1, 1) := by decide +kernel
theorem dL_law_3683 : decode cL_law 3683 = .ok (.iadd, 1) := by decide +kernel
theorem dL_law_3684 : decode cL_law 3684 = .ok (.iaload, 1) := by decide +kernel
theorem dL_law_3685 : decode cL_law 3685 = .ok (.aload_n 0, 1) := by decide +kernel
theorem dL_law_3686 : decode cL_law 3686 = .ok (.iload 4, 2) := by decide +kernel
theorem dL_law_3688 : decode cL_law 3688 = .ok (.iconst 2, 1) := by decide +kernel
theorem dL_law_3689 : decode cL_law 3689 = .ok (.iadd, 1) := by decide +kernel
theorem dL_law_3690 : decode cL_law 3690 = .ok (.iaload, 1) := by decide +kernel
theorem dL_law_3691 : decode cL_law 3691 = .ok (.aload_n 0, 1) := by decide +kernel
theorem dL_law_3692 : decode cL_law 3692 = .ok (.iload 4, 2) := by decide +kernel
theorem dL_law_3694 : decode cL_law 3694 = .ok (.iconst 3, 1) := by decide +kernel
theorem dL_law_3695 : decode cL_law 3695 = .ok (.iadd, 1) := by decide +kernel
theorem dL_law_3696 : decode cL_law 3696 = .ok (.iaload, 1) := by decide +kernel
theorem dL_law_3697 : decode cL_law 3697 = .ok (.ifCond .eq 7, 3) := by decide +kernel
theorem dL_law_3700 : decode cL_law 3700 = .ok (.iconst 1, 1) := by decide +kernel
theorem dL_law_3701 : decode cL_law 3701 = .ok (.goto 4, 3) := by decide +kernel
theorem dL_law_3704 : decode cL_law 3704 = .ok (.iconst 0, 1) := by decide +kernel
theorem dL_law_3705 : decode cL_law 3705 = .ok (.aload_n 0, 1) := by decide +kernel
theorem dL_law_3706 : decode cL_law 3706 = .ok (.iload 4, 2) := by decide +kernel
theorem dL_law_3708 : decode cL_law 3708 = .ok (.iconst 4, 1) := by decide +kernel
theorem dL_law_3709 : decode cL_law 3709 = .ok (.iadd, 1) := by decide +kernel
theorem dL_law_3710 : decode cL_law 3710 = .ok (.iaload, 1) := by decide +kernel
theorem dL_law_3711 : decode cL_law 3711 = .ok (.ifCond .eq 7, 3) := by decide +kernel
theorem dL_law_3714 : decode cL_law 3714 = .ok (.iconst 1, 1) := by decide +kernel
theorem dL_law_3715 : decode cL_law 3715 = .ok (.goto 4, 3) := by decide +kernel
theorem dL_law_3718 : decode cL_law 3718 = .ok (.iconst 0, 1) := by decide +kernel
theorem dL_law_3719 : decode cL_law 3719 = .ok (.invokevirtual 360, 3) := by decide +kernel
theorem dL_law_3722 : decode cL_law 3722 = .ok (.istore 6, 2) := by decide +kernel
theorem dL_law_3724 : decode cL_law 3724 = .ok (.aload_n 2, 1) := by decide +kernel
theorem dL_law_3725 : decode cL_law 3725 = .ok (.invokevirtual 184, 3) := by decide +kernel
theorem dL_law_3728 : decode cL_law 3728 = .ok (.iload 5, 2) := by decide +kernel
theorem dL_law_3730 : decode cL_law 3730 = .ok (.if_icmp .eq 5, 3) := by decide +kernel
theorem dL_law_3733 : decode cL_law 3733 = .ok (.iconst 0, 1) := by decide +kernel
theorem dL_law_3734 : decode cL_law 3734 = .ok (.ireturn, 1) := by decide +kernel
theorem dL_law_3735 : decode cL_law 3735 = .ok (.iload 5, 2) := by decide +kernel
theorem dL_law_3737 : decode cL_law 3737 = .ok (.ifCond .ne 15, 3) := by decide +kernel
theorem dL_law_3740 : decode cL_law 3740 = .ok (.aload_n 3, 1) := by decide +kernel
theorem dL_law_3741 : decode cL_law 3741 = .ok (.iconst 0, 1) := by decide +kernel
theorem dL_law_3742 : decode cL_law 3742 = .ok (.laload, 1) := by decide +kernel
theorem dL_law_3743 : decode cL_law 3743 = .ok (.iload 6, 2) := by decide +kernel
theorem dL_law_3745 : decode cL_law 3745 = .ok (.i2l, 1) := by decide +kernel
theorem dL_law_3746 : decode cL_law 3746 = .ok (.lcmp, 1) := by decide +kernel
theorem dL_law_3747 : decode cL_law 3747 = .ok (.ifCond .eq 5, 3) := by decide +kernel
theorem dL_law_3750 : decode cL_law 3750 = .ok (.iconst 0, 1) := by decide +kernel
theorem dL_law_3751 : decode cL_law 3751 = .ok (.ireturn, 1) := by decide +kernel
theorem dL_law_3752 : decode cL_law 3752 = .ok (.goto 3, 3) := by decide +kernel
theorem dL_law_3755 : decode cL_law 3755 = .ok (.iinc 4 7, 3) := by decide +kernel
theorem dL_law_3758 : decode cL_law 3758 = .ok (.goto (-3735), 3) := by decide +kernel
theorem dL_law_3761 : decode cL_law 3761 = .ok (.iconst 1, 1) := by decide +kernel
theorem dL_law_3762 : decode cL_law 3762 = .ok (.ireturn, 1) := by decide +kernel
