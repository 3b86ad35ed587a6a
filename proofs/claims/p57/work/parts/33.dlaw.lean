theorem dL_at_0 : decode cL_at 0 = .ok (.iload_n 1, 1) := by decide +kernel
theorem dL_at_1 : decode cL_at 1 = .ok (.aload_n 0, 1) := by decide +kernel
theorem dL_at_2 : decode cL_at 2 = .ok (.arraylength, 1) := by decide +kernel
theorem dL_at_3 : decode cL_at 3 = .ok (.if_icmp .ge 9, 3) := by decide +kernel
theorem dL_at_6 : decode cL_at 6 = .ok (.aload_n 0, 1) := by decide +kernel
theorem dL_at_7 : decode cL_at 7 = .ok (.iload_n 1, 1) := by decide +kernel
theorem dL_at_8 : decode cL_at 8 = .ok (.iaload, 1) := by decide +kernel
theorem dL_at_9 : decode cL_at 9 = .ok (.goto 12, 3) := by decide +kernel
theorem dL_at_12 : decode cL_at 12 = .ok (.ldc 7, 2) := by decide +kernel
theorem dL_at_14 : decode cL_at 14 = .ok (.iload_n 1, 1) := by decide +kernel
theorem dL_at_15 : decode cL_at 15 = .ok (.iconst 1, 1) := by decide +kernel
theorem dL_at_16 : decode cL_at 16 = .ok (.iadd, 1) := by decide +kernel
theorem dL_at_17 : decode cL_at 17 = .ok (.imul, 1) := by decide +kernel
theorem dL_at_18 : decode cL_at 18 = .ok (.ldc 8, 2) := by decide +kernel
theorem dL_at_20 : decode cL_at 20 = .ok (.iadd, 1) := by decide +kernel
theorem dL_at_21 : decode cL_at 21 = .ok (.ireturn, 1) := by decide +kernel
theorem dL_low_0 : decode cL_low 0 = .ok (.iload_n 0, 1) := by decide +kernel
theorem dL_low_1 : decode cL_low 1 = .ok (.ldc 9, 2) := by decide +kernel
theorem dL_low_3 : decode cL_low 3 = .ok (.iand, 1) := by decide +kernel
theorem dL_low_4 : decode cL_low 4 = .ok (.iload_n 1, 1) := by decide +kernel
theorem dL_low_5 : decode cL_low 5 = .ok (.irem, 1) := by decide +kernel
theorem dL_low_6 : decode cL_low 6 = .ok (.ireturn, 1) := by decide +kernel
theorem dL_addBar_0 : decode cL_addBar 0 = .ok (.aload_n 0, 1) := by decide +kernel
theorem dL_addBar_1 : decode cL_addBar 1 = .ok (.iload_n 1, 1) := by decide +kernel
theorem dL_addBar_2 : decode cL_addBar 2 = .ok (.iload_n 2, 1) := by decide +kernel
theorem dL_addBar_3 : decode cL_addBar 3 = .ok (.invokevirtual 10, 3) := by decide +kernel
theorem dL_addBar_6 : decode cL_addBar 6 = .ok (.ireturn, 1) := by decide +kernel
theorem dL_addBar_7 : decode cL_addBar 7 = .ok (.astore_n 3, 1) := by decide +kernel
theorem dL_addBar_8 : decode cL_addBar 8 = .ok (.ldc 18, 2) := by decide +kernel
theorem dL_addBar_10 : decode cL_addBar 10 = .ok (.ireturn, 1) := by decide +kernel
theorem dL_addBar_11 : decode cL_addBar 11 = .ok (.astore_n 3, 1) := by decide +kernel
theorem dL_addBar_12 : decode cL_addBar 12 = .ok (.ldc 21, 2) := by decide +kernel
theorem dL_addBar_14 : decode cL_addBar 14 = .ok (.ireturn, 1) := by decide +kernel
theorem dL_setMetre_0 : decode cL_setMetre 0 = .ok (.aload_n 0, 1) := by decide +kernel
theorem dL_setMetre_1 : decode cL_setMetre 1 = .ok (.iload_n 1, 1) := by decide +kernel
theorem dL_setMetre_2 : decode cL_setMetre 2 = .ok (.iload_n 2, 1) := by decide +kernel
theorem dL_setMetre_3 : decode cL_setMetre 3 = .ok (.iload_n 3, 1) := by decide +kernel
theorem dL_setMetre_4 : decode cL_setMetre 4 = .ok (.invokevirtual 22, 3) := by decide +kernel
theorem dL_setMetre_7 : decode cL_setMetre 7 = .ok (.ireturn, 1) := by decide +kernel
theorem dL_setMetre_8 : decode cL_setMetre 8 = .ok (.astore 4, 2) := by decide +kernel
theorem dL_setMetre_10 : decode cL_setMetre 10 = .ok (.ldc 28, 2) := by decide +kernel
theorem dL_setMetre_12 : decode cL_setMetre 12 = .ok (.ireturn, 1) := by decide +kernel
theorem dL_setMetre_13 : decode cL_setMetre 13 = .ok (.astore 4, 2) := by decide +kernel
theorem dL_setMetre_15 : decode cL_setMetre 15 = .ok (.ldc 18, 2) := by decide +kernel
theorem dL_setMetre_17 : decode cL_setMetre 17 = .ok (.ireturn, 1) := by decide +kernel
theorem dL_setMetre_18 : decode cL_setMetre 18 = .ok (.astore 4, 2) := by decide +kernel
theorem dL_setMetre_20 : decode cL_setMetre 20 = .ok (.ldc 21, 2) := by decide +kernel
theorem dL_setMetre_22 : decode cL_setMetre 22 = .ok (.ireturn, 1) := by decide +kernel
theorem dL_setTempo_0 : decode cL_setTempo 0 = .ok (.aload_n 0, 1) := by decide +kernel
theorem dL_setTempo_1 : decode cL_setTempo 1 = .ok (.iload_n 1, 1) := by decide +kernel
theorem dL_setTempo_2 : decode cL_setTempo 2 = .ok (.iload_n 2, 1) := by decide +kernel
theorem dL_setTempo_3 : decode cL_setTempo 3 = .ok (.invokevirtual 29, 3) := by decide +kernel
theorem dL_setTempo_6 : decode cL_setTempo 6 = .ok (.ireturn, 1) := by decide +kernel
theorem dL_setTempo_7 : decode cL_setTempo 7 = .ok (.astore_n 3, 1) := by decide +kernel
theorem dL_setTempo_8 : decode cL_setTempo 8 = .ok (.ldc 28, 2) := by decide +kernel
theorem dL_setTempo_10 : decode cL_setTempo 10 = .ok (.ireturn, 1) := by decide +kernel
theorem dL_setTempo_11 : decode cL_setTempo 11 = .ok (.astore_n 3, 1) := by decide +kernel
theorem dL_setTempo_12 : decode cL_setTempo 12 = .ok (.ldc 18, 2) := by decide +kernel
theorem dL_setTempo_14 : decode cL_setTempo 14 = .ok (.ireturn, 1) := by decide +kernel
theorem dL_length_0 : decode cL_length 0 = .ok (.aload_n 0, 1) := by decide +kernel
theorem dL_length_1 : decode cL_length 1 = .ok (.iload_n 1, 1) := by decide +kernel
theorem dL_length_2 : decode cL_length 2 = .ok (.invokevirtual 32, 3) := by decide +kernel
theorem dL_length_5 : decode cL_length 5 = .ok (.ireturn, 1) := by decide +kernel
theorem dL_length_6 : decode cL_length 6 = .ok (.astore_n 2, 1) := by decide +kernel
theorem dL_length_7 : decode cL_length 7 = .ok (.ldc 28, 2) := by decide +kernel
theorem dL_length_9 : decode cL_length 9 = .ok (.ireturn, 1) := by decide +kernel
theorem dL_tempo_0 : decode cL_tempo 0 = .ok (.aload_n 0, 1) := by decide +kernel
theorem dL_tempo_1 : decode cL_tempo 1 = .ok (.iload_n 1, 1) := by decide +kernel
theorem dL_tempo_2 : decode cL_tempo 2 = .ok (.invokevirtual 36, 3) := by decide +kernel
theorem dL_tempo_5 : decode cL_tempo 5 = .ok (.ireturn, 1) := by decide +kernel
theorem dL_tempo_6 : decode cL_tempo 6 = .ok (.astore_n 2, 1) := by decide +kernel
theorem dL_tempo_7 : decode cL_tempo 7 = .ok (.ldc 28, 2) := by decide +kernel
theorem dL_tempo_9 : decode cL_tempo 9 = .ok (.ireturn, 1) := by decide +kernel
theorem dL_time_0 : decode cL_time 0 = .ok (.aload_n 0, 1) := by decide +kernel
theorem dL_time_1 : decode cL_time 1 = .ok (.iload_n 1, 1) := by decide +kernel
theorem dL_time_2 : decode cL_time 2 = .ok (.invokevirtual 39, 3) := by decide +kernel
theorem dL_time_5 : decode cL_time 5 = .ok (.ireturn, 1) := by decide +kernel
theorem dL_time_6 : decode cL_time 6 = .ok (.astore_n 2, 1) := by decide +kernel
theorem dL_time_7 : decode cL_time 7 = .ok (.ldc 28, 2) := by decide +kernel
theorem dL_time_9 : decode cL_time 9 = .ok (.ireturn, 1) := by decide +kernel
theorem dL_insert_0 : decode cL_insert 0 = .ok (.aload_n 0, 1) := by decide +kernel
theorem dL_insert_1 : decode cL_insert 1 = .ok (.iload_n 1, 1) := by decide +kernel
theorem dL_insert_2 : decode cL_insert 2 = .ok (.iload_n 2, 1) := by decide +kernel
theorem dL_insert_3 : decode cL_insert 3 = .ok (.iload_n 3, 1) := by decide +kernel
theorem dL_insert_4 : decode cL_insert 4 = .ok (.iload 4, 2) := by decide +kernel
theorem dL_insert_6 : decode cL_insert 6 = .ok (.iload 5, 2) := by decide +kernel
theorem dL_insert_8 : decode cL_insert 8 = .ok (.iload 6, 2) := by decide +kernel
theorem dL_insert_10 : decode cL_insert 10 = .ok (.invokevirtual 42, 3) := by decide +kernel
theorem dL_insert_13 : decode cL_insert 13 = .ok (.ireturn, 1) := by decide +kernel
theorem dL_insert_14 : decode cL_insert 14 = .ok (.astore 7, 2) := by decide +kernel
theorem dL_insert_16 : decode cL_insert 16 = .ok (.ldc 18, 2) := by decide +kernel
theorem dL_insert_18 : decode cL_insert 18 = .ok (.ireturn, 1) := by decide +kernel
theorem dL_insert_19 : decode cL_insert 19 = .ok (.astore 7, 2) := by decide +kernel
theorem dL_insert_21 : decode cL_insert 21 = .ok (.ldc 28, 2) := by decide +kernel
theorem dL_insert_23 : decode cL_insert 23 = .ok (.ireturn, 1) := by decide +kernel
theorem dL_insert_24 : decode cL_insert 24 = .ok (.astore 7, 2) := by decide +kernel
theorem dL_insert_26 : decode cL_insert 26 = .ok (.ldc 21, 2) := by decide +kernel
theorem dL_insert_28 : decode cL_insert 28 = .ok (.ireturn, 1) := by decide +kernel
theorem dL_remove_0 : decode cL_remove 0 = .ok (.aload_n 0, 1) := by decide +kernel
theorem dL_remove_1 : decode cL_remove 1 = .ok (.iload_n 1, 1) := by decide +kernel
theorem dL_remove_2 : decode cL_remove 2 = .ok (.iload_n 2, 1) := by decide +kernel
theorem dL_remove_3 : decode cL_remove 3 = .ok (.iload_n 3, 1) := by decide +kernel
theorem dL_remove_4 : decode cL_remove 4 = .ok (.invokevirtual 46, 3) := by decide +kernel
theorem dL_remove_7 : decode cL_remove 7 = .ok (.ireturn, 1) := by decide +kernel
theorem dL_remove_8 : decode cL_remove 8 = .ok (.astore 4, 2) := by decide +kernel
theorem dL_remove_10 : decode cL_remove 10 = .ok (.ldc 18, 2) := by decide +kernel
theorem dL_remove_12 : decode cL_remove 12 = .ok (.ireturn, 1) := by decide +kernel
theorem dL_remove_13 : decode cL_remove 13 = .ok (.astore 4, 2) := by decide +kernel
theorem dL_remove_15 : decode cL_remove 15 = .ok (.ldc 28, 2) := by decide +kernel
theorem dL_remove_17 : decode cL_remove 17 = .ok (.ireturn, 1) := by decide +kernel
theorem dL_setPitch_0 : decode cL_setPitch 0 = .ok (.aload_n 0, 1) := by decide +kernel
theorem dL_setPitch_1 : decode cL_setPitch 1 = .ok (.iload_n 1, 1) := by decide +kernel
theorem dL_setPitch_2 : decode cL_setPitch 2 = .ok (.iload_n 2, 1) := by decide +kernel
theorem dL_setPitch_3 : decode cL_setPitch 3 = .ok (.iload_n 3, 1) := by decide +kernel
theorem dL_setPitch_4 : decode cL_setPitch 4 = .ok (.iload 4, 2) := by decide +kernel
theorem dL_setPitch_6 : decode cL_setPitch 6 = .ok (.invokevirtual 49, 3) := by decide +kernel
theorem dL_setPitch_9 : decode cL_setPitch 9 = .ok (.ireturn, 1) := by decide +kernel
theorem dL_setPitch_10 : decode cL_setPitch 10 = .ok (.astore 5, 2) := by decide +kernel
theorem dL_setPitch_12 : decode cL_setPitch 12 = .ok (.ldc 18, 2) := by decide +kernel
theorem dL_setPitch_14 : decode cL_setPitch 14 = .ok (.ireturn, 1) := by decide +kernel
theorem dL_setPitch_15 : decode cL_setPitch 15 = .ok (.astore 5, 2) := by decide +kernel
theorem dL_setPitch_17 : decode cL_setPitch 17 = .ok (.ldc 28, 2) := by decide +kernel
theorem dL_setPitch_19 : decode cL_setPitch 19 = .ok (.ireturn, 1) := by decide +kernel
theorem dL_setPitch_20 : decode cL_setPitch 20 = .ok (.astore 5, 2) := by decide +kernel
theorem dL_setPitch_22 : decode cL_setPitch 22 = .ok (.ldc 21, 2) := by decide +kernel
theorem dL_setPitch_24 : decode cL_setPitch 24 = .ok (.ireturn, 1) := by decide +kernel
theorem dL_setTie_0 : decode cL_setTie 0 = .ok (.aload_n 0, 1) := by decide +kernel
theorem dL_setTie_1 : decode cL_setTie 1 = .ok (.iload_n 1, 1) := by decide +kernel
theorem dL_setTie_2 : decode cL_setTie 2 = .ok (.iload_n 2, 1) := by decide +kernel
theorem dL_setTie_3 : decode cL_setTie 3 = .ok (.iload_n 3, 1) := by decide +kernel
theorem dL_setTie_4 : decode cL_setTie 4 = .ok (.iload 4, 2) := by decide +kernel
theorem dL_setTie_6 : decode cL_setTie 6 = .ok (.invokevirtual 53, 3) := by decide +kernel
theorem dL_setTie_9 : decode cL_setTie 9 = .ok (.ifCond .eq 7, 3) := by decide +kernel
theorem dL_setTie_12 : decode cL_setTie 12 = .ok (.iconst 1, 1) := by decide +kernel
theorem dL_setTie_13 : decode cL_setTie 13 = .ok (.goto 4, 3) := by decide +kernel
theorem dL_setTie_16 : decode cL_setTie 16 = .ok (.iconst 0, 1) := by decide +kernel
theorem dL_setTie_17 : decode cL_setTie 17 = .ok (.ireturn, 1) := by decide +kernel
theorem dL_setTie_18 : decode cL_setTie 18 = .ok (.astore 5, 2) := by decide +kernel
theorem dL_setTie_20 : decode cL_setTie 20 = .ok (.ldc 18, 2) := by decide +kernel
theorem dL_setTie_22 : decode cL_setTie 22 = .ok (.ireturn, 1) := by decide +kernel
theorem dL_setTie_23 : decode cL_setTie 23 = .ok (.astore 5, 2) := by decide +kernel
theorem dL_setTie_25 : decode cL_setTie 25 = .ok (.ldc 28, 2) := by decide +kernel
theorem dL_setTie_27 : decode cL_setTie 27 = .ok (.ireturn, 1) := by decide +kernel
theorem dL_setTie_28 : decode cL_setTie 28 = .ok (.astore 5, 2) := by decide +kernel
theorem dL_setTie_30 : decode cL_setTie 30 = .ok (.ldc 21, 2) := by decide +kernel
theorem dL_setTie_32 : decode cL_setTie 32 = .ok (.ireturn, 1) := by decide +kernel
theorem dL_setMark_0 : decode cL_setMark 0 = .ok (.aload_n 0, 1) := by decide +kernel
theorem dL_setMark_1 : decode cL_setMark 1 = .ok (.iload_n 1, 1) := by decide +kernel
theorem dL_setMark_2 : decode cL_setMark 2 = .ok (.iload_n 2, 1) := by decide +kernel
theorem dL_setMark_3 : decode cL_setMark 3 = .ok (.iload_n 3, 1) := by decide +kernel
theorem dL_setMark_4 : decode cL_setMark 4 = .ok (.iload 4, 2) := by decide +kernel
theorem dL_setMark_6 : decode cL_setMark 6 = .ok (.invokevirtual 57, 3) := by decide +kernel
theorem dL_setMark_9 : decode cL_setMark 9 = .ok (.ireturn, 1) := by decide +kernel
theorem dL_setMark_10 : decode cL_setMark 10 = .ok (.astore 5, 2) := by decide +kernel
theorem dL_setMark_12 : decode cL_setMark 12 = .ok (.ldc 18, 2) := by decide +kernel
theorem dL_setMark_14 : decode cL_setMark 14 = .ok (.ireturn, 1) := by decide +kernel
theorem dL_setMark_15 : decode cL_setMark 15 = .ok (.astore 5, 2) := by decide +kernel
theorem dL_setMark_17 : decode cL_setMark 17 = .ok (.ldc 28, 2) := by decide +kernel
theorem dL_setMark_19 : decode cL_setMark 19 = .ok (.ireturn, 1) := by decide +kernel
theorem dL_transpose_0 : decode cL_transpose 0 = .ok (.aload_n 0, 1) := by decide +kernel
theorem dL_transpose_1 : decode cL_transpose 1 = .ok (.iload_n 1, 1) := by decide +kernel
theorem dL_transpose_2 : decode cL_transpose 2 = .ok (.iload_n 2, 1) := by decide +kernel
theorem dL_transpose_3 : decode cL_transpose 3 = .ok (.invokevirtual 60, 3) := by decide +kernel
theorem dL_transpose_6 : decode cL_transpose 6 = .ok (.ireturn, 1) := by decide +kernel
theorem dL_transpose_7 : decode cL_transpose 7 = .ok (.astore_n 3, 1) := by decide +kernel
theorem dL_transpose_8 : decode cL_transpose 8 = .ok (.ldc 18, 2) := by decide +kernel
theorem dL_transpose_10 : decode cL_transpose 10 = .ok (.ireturn, 1) := by decide +kernel
theorem dL_transpose_11 : decode cL_transpose 11 = .ok (.astore_n 3, 1) := by decide +kernel
theorem dL_transpose_12 : decode cL_transpose 12 = .ok (.ldc 21, 2) := by decide +kernel
theorem dL_transpose_14 : decode cL_transpose 14 = .ok (.ireturn, 1) := by decide +kernel
theorem dL_events_0 : decode cL_events 0 = .ok (.aload_n 0, 1) := by decide +kernel
theorem dL_events_1 : decode cL_events 1 = .ok (.iload_n 1, 1) := by decide +kernel
theorem dL_events_2 : decode cL_events 2 = .ok (.iload_n 2, 1) := by decide +kernel
theorem dL_events_3 : decode cL_events 3 = .ok (.invokevirtual 63, 3) := by decide +kernel
theorem dL_events_6 : decode cL_events 6 = .ok (.ireturn, 1) := by decide +kernel
theorem dL_events_7 : decode cL_events 7 = .ok (.astore_n 3, 1) := by decide +kernel
theorem dL_events_8 : decode cL_events 8 = .ok (.ldc 18, 2) := by decide +kernel
theorem dL_events_10 : decode cL_events 10 = .ok (.ireturn, 1) := by decide +kernel
theorem dL_events_11 : decode cL_events 11 = .ok (.astore_n 3, 1) := by decide +kernel
theorem dL_events_12 : decode cL_events 12 = .ok (.ldc 28, 2) := by decide +kernel
theorem dL_events_14 : decode cL_events 14 = .ok (.ireturn, 1) := by decide +kernel
theorem dL_left_0 : decode cL_left 0 = .ok (.aload_n 0, 1) := by decide +kernel
theorem dL_left_1 : decode cL_left 1 = .ok (.iload_n 1, 1) := by decide +kernel
theorem dL_left_2 : decode cL_left 2 = .ok (.iload_n 2, 1) := by decide +kernel
theorem dL_left_3 : decode cL_left 3 = .ok (.invokevirtual 66, 3) := by decide +kernel
theorem dL_left_6 : decode cL_left 6 = .ok (.ireturn, 1) := by decide +kernel
theorem dL_left_7 : decode cL_left 7 = .ok (.astore_n 3, 1) := by decide +kernel
theorem dL_left_8 : decode cL_left 8 = .ok (.ldc 18, 2) := by decide +kernel
theorem dL_left_10 : decode cL_left 10 = .ok (.ireturn, 1) := by decide +kernel
theorem dL_left_11 : decode cL_left 11 = .ok (.astore_n 3, 1) := by decide +kernel
theorem dL_left_12 : decode cL_left 12 = .ok (.ldc 28, 2) := by decide +kernel
theorem dL_left_14 : decode cL_left 14 = .ok (.ireturn, 1) := by decide +kernel
theorem dL_isRight_0 : decode cL_isRight 0 = .ok (.aload_n 0, 1) := by decide +kernel
theorem dL_isRight_1 : decode cL_isRight 1 = .ok (.iload_n 1, 1) := by decide +kernel
theorem dL_isRight_2 : decode cL_isRight 2 = .ok (.iload_n 2, 1) := by decide +kernel
theorem dL_isRight_3 : decode cL_isRight 3 = .ok (.invokevirtual 69, 3) := by decide +kernel
theorem dL_isRight_6 : decode cL_isRight 6 = .ok (.ifCond .eq 7, 3) := by decide +kernel
theorem dL_isRight_9 : decode cL_isRight 9 = .ok (.iconst 1, 1) := by decide +kernel
theorem dL_isRight_10 : decode cL_isRight 10 = .ok (.goto 4, 3) := by decide +kernel
theorem dL_isRight_13 : decode cL_isRight 13 = .ok (.iconst 0, 1) := by decide +kernel
theorem dL_isRight_14 : decode cL_isRight 14 = .ok (.ireturn, 1) := by decide +kernel
theorem dL_isRight_15 : decode cL_isRight 15 = .ok (.astore_n 3, 1) := by decide +kernel
theorem dL_isRight_16 : decode cL_isRight 16 = .ok (.ldc 18, 2) := by decide +kernel
theorem dL_isRight_18 : decode cL_isRight 18 = .ok (.ireturn, 1) := by decide +kernel
theorem dL_isRight_19 : decode cL_isRight 19 = .ok (.astore_n 3, 1) := by decide +kernel
theorem dL_isRight_20 : decode cL_isRight 20 = .ok (.ldc 28, 2) := by decide +kernel
theorem dL_isRight_22 : decode cL_isRight 22 = .ok (.ireturn, 1) := by decide +kernel
theorem dL_written_0 : decode cL_written 0 = .ok (.aload_n 0, 1) := by decide +kernel
theorem dL_written_1 : decode cL_written 1 = .ok (.iload_n 1, 1) := by decide +kernel
theorem dL_written_2 : decode cL_written 2 = .ok (.iload_n 2, 1) := by decide +kernel
theorem dL_written_3 : decode cL_written 3 = .ok (.iload_n 3, 1) := by decide +kernel
theorem dL_written_4 : decode cL_written 4 = .ok (.invokevirtual 73, 3) := by decide +kernel
theorem dL_written_7 : decode cL_written 7 = .ok (.ireturn, 1) := by decide +kernel
theorem dL_written_8 : decode cL_written 8 = .ok (.astore 4, 2) := by decide +kernel
theorem dL_written_10 : decode cL_written 10 = .ok (.ldc 18, 2) := by decide +kernel
theorem dL_written_12 : decode cL_written 12 = .ok (.ireturn, 1) := by decide +kernel
theorem dL_written_13 : decode cL_written 13 = .ok (.astore 4, 2) := by decide +kernel
theorem dL_written_15 : decode cL_written 15 = .ok (.ldc 28, 2) := by decide +kernel
theorem dL_written_17 : decode cL_written 17 = .ok (.ireturn, 1) := by decide +kernel
theorem dL_addPhrase_0 : decode cL_addPhrase 0 = .ok (.aload_n 0, 1) := by decide +kernel
theorem dL_addPhrase_1 : decode cL_addPhrase 1 = .ok (.iload_n 1, 1) := by decide +kernel
theorem dL_addPhrase_2 : decode cL_addPhrase 2 = .ok (.iload_n 2, 1) := by decide +kernel
theorem dL_addPhrase_3 : decode cL_addPhrase 3 = .ok (.iload_n 3, 1) := by decide +kernel
theorem dL_addPhrase_4 : decode cL_addPhrase 4 = .ok (.iload 4, 2) := by decide +kernel
theorem dL_addPhrase_6 : decode cL_addPhrase 6 = .ok (.iload 5, 2) := by decide +kernel
theorem dL_addPhrase_8 : decode cL_addPhrase 8 = .ok (.invokevirtual 76, 3) := by decide +kernel
theorem dL_addPhrase_11 : decode cL_addPhrase 11 = .ok (.ireturn, 1) := by decide +kernel
theorem dL_addPhrase_12 : decode cL_addPhrase 12 = .ok (.astore 6, 2) := by decide +kernel
theorem dL_addPhrase_14 : decode cL_addPhrase 14 = .ok (.ldc 18, 2) := by decide +kernel
theorem dL_addPhrase_16 : decode cL_addPhrase 16 = .ok (.ireturn, 1) := by decide +kernel
theorem dL_addPhrase_17 : decode cL_addPhrase 17 = .ok (.astore 6, 2) := by decide +kernel
theorem dL_addPhrase_19 : decode cL_addPhrase 19 = .ok (.ldc 28, 2) := by decide +kernel
theorem dL_addPhrase_21 : decode cL_addPhrase 21 = .ok (.ireturn, 1) := by decide +kernel
theorem dL_addPhrase_22 : decode cL_addPhrase 22 = .ok (.astore 6, 2) := by decide +kernel
theorem dL_addPhrase_24 : decode cL_addPhrase 24 = .ok (.ldc 21, 2) := by decide +kernel
theorem dL_addPhrase_26 : decode cL_addPhrase 26 = .ok (.ireturn, 1) := by decide +kernel
theorem dL_dropPhrase_0 : decode cL_dropPhrase 0 = .ok (.aload_n 0, 1) := by decide +kernel
theorem dL_dropPhrase_1 : decode cL_dropPhrase 1 = .ok (.iload_n 1, 1) := by decide +kernel
theorem dL_dropPhrase_2 : decode cL_dropPhrase 2 = .ok (.invokevirtual 80, 3) := by decide +kernel
theorem dL_dropPhrase_5 : decode cL_dropPhrase 5 = .ok (.ifCond .eq 7, 3) := by decide +kernel
theorem dL_dropPhrase_8 : decode cL_dropPhrase 8 = .ok (.iconst 1, 1) := by decide +kernel
theorem dL_dropPhrase_9 : decode cL_dropPhrase 9 = .ok (.goto 4, 3) := by decide +kernel
theorem dL_dropPhrase_12 : decode cL_dropPhrase 12 = .ok (.iconst 0, 1) := by decide +kernel
theorem dL_dropPhrase_13 : decode cL_dropPhrase 13 = .ok (.ireturn, 1) := by decide +kernel
theorem dL_dropPhrase_14 : decode cL_dropPhrase 14 = .ok (.astore_n 2, 1) := by decide +kernel
theorem dL_dropPhrase_15 : decode cL_dropPhrase 15 = .ok (.ldc 28, 2) := by decide +kernel
theorem dL_dropPhrase_17 : decode cL_dropPhrase 17 = .ok (.ireturn, 1) := by decide +kernel
theorem dL_allowTurn_0 : decode cL_allowTurn 0 = .ok (.aload_n 0, 1) := by decide +kernel
theorem dL_allowTurn_1 : decode cL_allowTurn 1 = .ok (.iload_n 1, 1) := by decide +kernel
theorem dL_allowTurn_2 : decode cL_allowTurn 2 = .ok (.iload_n 2, 1) := by decide +kernel
theorem dL_allowTurn_3 : decode cL_allowTurn 3 = .ok (.iload_n 3, 1) := by decide +kernel
theorem dL_allowTurn_4 : decode cL_allowTurn 4 = .ok (.invokevirtual 84, 3) := by decide +kernel
theorem dL_allowTurn_7 : decode cL_allowTurn 7 = .ok (.ifCond .eq 7, 3) := by decide +kernel
theorem dL_allowTurn_10 : decode cL_allowTurn 10 = .ok (.iconst 1, 1) := by decide +kernel
theorem dL_allowTurn_11 : decode cL_allowTurn 11 = .ok (.goto 4, 3) := by decide +kernel
theorem dL_allowTurn_14 : decode cL_allowTurn 14 = .ok (.iconst 0, 1) := by decide +kernel
theorem dL_allowTurn_15 : decode cL_allowTurn 15 = .ok (.ireturn, 1) := by decide +kernel
theorem dL_allowTurn_16 : decode cL_allowTurn 16 = .ok (.astore 4, 2) := by decide +kernel
theorem dL_allowTurn_18 : decode cL_allowTurn 18 = .ok (.ldc 18, 2) := by decide +kernel
theorem dL_allowTurn_20 : decode cL_allowTurn 20 = .ok (.ireturn, 1) := by decide +kernel
theorem dL_allowTurn_21 : decode cL_allowTurn 21 = .ok (.astore 4, 2) := by decide +kernel
theorem dL_allowTurn_23 : decode cL_allowTurn 23 = .ok (.ldc 28, 2) := by decide +kernel
theorem dL_allowTurn_25 : decode cL_allowTurn 25 = .ok (.ireturn, 1) := by decide +kernel
theorem dL_addRepeat_0 : decode cL_addRepeat 0 = .ok (.aload_n 0, 1) := by decide +kernel
theorem dL_addRepeat_1 : decode cL_addRepeat 1 = .ok (.iload_n 1, 1) := by decide +kernel
theorem dL_addRepeat_2 : decode cL_addRepeat 2 = .ok (.iload_n 2, 1) := by decide +kernel
theorem dL_addRepeat_3 : decode cL_addRepeat 3 = .ok (.iload_n 3, 1) := by decide +kernel
theorem dL_addRepeat_4 : decode cL_addRepeat 4 = .ok (.invokevirtual 88, 3) := by decide +kernel
theorem dL_addRepeat_7 : decode cL_addRepeat 7 = .ok (.ireturn, 1) := by decide +kernel
theorem dL_addRepeat_8 : decode cL_addRepeat 8 = .ok (.astore 4, 2) := by decide +kernel
theorem dL_addRepeat_10 : decode cL_addRepeat 10 = .ok (.ldc 28, 2) := by decide +kernel
theorem dL_addRepeat_12 : decode cL_addRepeat 12 = .ok (.ireturn, 1) := by decide +kernel
theorem dL_addRepeat_13 : decode cL_addRepeat 13 = .ok (.astore 4, 2) := by decide +kernel
theorem dL_addRepeat_15 : decode cL_addRepeat 15 = .ok (.ldc 18, 2) := by decide +kernel
theorem dL_addRepeat_17 : decode cL_addRepeat 17 = .ok (.ireturn, 1) := by decide +kernel
theorem dL_addRepeat_18 : decode cL_addRepeat 18 = .ok (.astore 4, 2) := by decide +kernel
theorem dL_addRepeat_20 : decode cL_addRepeat 20 = .ok (.ldc 21, 2) := by decide +kernel
theorem dL_addRepeat_22 : decode cL_addRepeat 22 = .ok (.ireturn, 1) := by decide +kernel
theorem dL_dropRepeat_0 : decode cL_dropRepeat 0 = .ok (.aload_n 0, 1) := by decide +kernel
theorem dL_dropRepeat_1 : decode cL_dropRepeat 1 = .ok (.iload_n 1, 1) := by decide +kernel
theorem dL_dropRepeat_2 : decode cL_dropRepeat 2 = .ok (.invokevirtual 91, 3) := by decide +kernel
theorem dL_dropRepeat_5 : decode cL_dropRepeat 5 = .ok (.ireturn, 1) := by decide +kernel
theorem dL_dropRepeat_6 : decode cL_dropRepeat 6 = .ok (.astore_n 2, 1) := by decide +kernel
theorem dL_dropRepeat_7 : decode cL_dropRepeat 7 = .ok (.ldc 28, 2) := by decide +kernel
theorem dL_dropRepeat_9 : decode cL_dropRepeat 9 = .ok (.ireturn, 1) := by decide +kernel
theorem dL_dropRepeat_10 : decode cL_dropRepeat 10 = .ok (.astore_n 2, 1) := by decide +kernel
theorem dL_dropRepeat_11 : decode cL_dropRepeat 11 = .ok (.ldc 21, 2) := by decide +kernel
theorem dL_dropRepeat_13 : decode cL_dropRepeat 13 = .ok (.ireturn, 1) := by decide +kernel
theorem dL_barAt_0 : decode cL_barAt 0 = .ok (.aload_n 0, 1) := by decide +kernel
theorem dL_barAt_1 : decode cL_barAt 1 = .ok (.iload_n 1, 1) := by decide +kernel
theorem dL_barAt_2 : decode cL_barAt 2 = .ok (.invokevirtual 94, 3) := by decide +kernel
theorem dL_barAt_5 : decode cL_barAt 5 = .ok (.ireturn, 1) := by decide +kernel
theorem dL_barAt_6 : decode cL_barAt 6 = .ok (.astore_n 2, 1) := by decide +kernel
theorem dL_barAt_7 : decode cL_barAt 7 = .ok (.ldc 28, 2) := by decide +kernel
theorem dL_barAt_9 : decode cL_barAt 9 = .ok (.ireturn, 1) := by decide +kernel
theorem dL_startOf_0 : decode cL_startOf 0 = .ok (.aload_n 0, 1) := by decide +kernel
theorem dL_startOf_1 : decode cL_startOf 1 = .ok (.iload_n 1, 1) := by decide +kernel
theorem dL_startOf_2 : decode cL_startOf 2 = .ok (.invokevirtual 97, 3) := by decide +kernel
theorem dL_startOf_5 : decode cL_startOf 5 = .ok (.ireturn, 1) := by decide +kernel
theorem dL_startOf_6 : decode cL_startOf 6 = .ok (.astore_n 2, 1) := by decide +kernel
theorem dL_startOf_7 : decode cL_startOf 7 = .ok (.ldc 28, 2) := by decide +kernel
theorem dL_startOf_9 : decode cL_startOf 9 = .ok (.ireturn, 1) := by decide +kernel
theorem dL_timeByEvents_0 : decode cL_timeByEvents 0 = .ok (.aload_n 0, 1) := by decide +kernel
theorem dL_timeByEvents_1 : decode cL_timeByEvents 1 = .ok (.iload_n 1, 1) := by decide +kernel
theorem dL_timeByEvents_2 : decode cL_timeByEvents 2 = .ok (.invokevirtual 100, 3) := by decide +kernel
theorem dL_timeByEvents_5 : decode cL_timeByEvents 5 = .ok (.ireturn, 1) := by decide +kernel
theorem dL_timeByEvents_6 : decode cL_timeByEvents 6 = .ok (.astore_n 2, 1) := by decide +kernel
theorem dL_timeByEvents_7 : decode cL_timeByEvents 7 = .ok (.ldc 18, 2) := by decide +kernel
theorem dL_timeByEvents_9 : decode cL_timeByEvents 9 = .ok (.ireturn, 1) := by decide +kernel
theorem dL_soundVoice_0 : decode cL_soundVoice 0 = .ok (.aload_n 0, 1) := by decide +kernel
theorem dL_soundVoice_1 : decode cL_soundVoice 1 = .ok (.iload_n 1, 1) := by decide +kernel
theorem dL_soundVoice_2 : decode cL_soundVoice 2 = .ok (.invokevirtual 103, 3) := by decide +kernel
theorem dL_soundVoice_5 : decode cL_soundVoice 5 = .ok (.ireturn, 1) := by decide +kernel
theorem dL_soundVoice_6 : decode cL_soundVoice 6 = .ok (.astore_n 2, 1) := by decide +kernel
theorem dL_soundVoice_7 : decode cL_soundVoice 7 = .ok (.ldc 28, 2) := by decide +kernel
theorem dL_soundVoice_9 : decode cL_soundVoice 9 = .ok (.ireturn, 1) := by decide +kernel
theorem dL_soundStart_0 : decode cL_soundStart 0 = .ok (.aload_n 0, 1) := by decide +kernel
theorem dL_soundStart_1 : decode cL_soundStart 1 = .ok (.iload_n 1, 1) := by decide +kernel
theorem dL_soundStart_2 : decode cL_soundStart 2 = .ok (.invokevirtual 106, 3) := by decide +kernel
theorem dL_soundStart_5 : decode cL_soundStart 5 = .ok (.ireturn, 1) := by decide +kernel
theorem dL_soundStart_6 : decode cL_soundStart 6 = .ok (.astore_n 2, 1) := by decide +kernel
theorem dL_soundStart_7 : decode cL_soundStart 7 = .ok (.ldc 28, 2) := by decide +kernel
theorem dL_soundStart_9 : decode cL_soundStart 9 = .ok (.ireturn, 1) := by decide +kernel
theorem dL_soundTime_0 : decode cL_soundTime 0 = .ok (.aload_n 0, 1) := by decide +kernel
theorem dL_soundTime_1 : decode cL_soundTime 1 = .ok (.iload_n 1, 1) := by decide +kernel
theorem dL_soundTime_2 : decode cL_soundTime 2 = .ok (.invokevirtual 109, 3) := by decide +kernel
theorem dL_soundTime_5 : decode cL_soundTime 5 = .ok (.ireturn, 1) := by decide +kernel
theorem dL_soundTime_6 : decode cL_soundTime 6 = .ok (.astore_n 2, 1) := by decide +kernel
theorem dL_soundTime_7 : decode cL_soundTime 7 = .ok (.ldc 28, 2) := by decide +kernel
theorem dL_soundTime_9 : decode cL_soundTime 9 = .ok (.ireturn, 1) := by decide +kernel
theorem dL_soundPitch_0 : decode cL_soundPitch 0 = .ok (.aload_n 0, 1) := by decide +kernel
theorem dL_soundPitch_1 : decode cL_soundPitch 1 = .ok (.iload_n 1, 1) := by decide +kernel
theorem dL_soundPitch_2 : decode cL_soundPitch 2 = .ok (.invokevirtual 112, 3) := by decide +kernel
theorem dL_soundPitch_5 : decode cL_soundPitch 5 = .ok (.ireturn, 1) := by decide +kernel
theorem dL_soundPitch_6 : decode cL_soundPitch 6 = .ok (.astore_n 2, 1) := by decide +kernel
theorem dL_soundPitch_7 : decode cL_soundPitch 7 = .ok (.ldc 28, 2) := by decide +kernel
theorem dL_soundPitch_9 : decode cL_soundPitch 9 = .ok (.ireturn, 1) := by decide +kernel
theorem dL_loudness_0 : decode cL_loudness 0 = .ok (.aload_n 0, 1) := by decide +kernel
theorem dL_loudness_1 : decode cL_loudness 1 = .ok (.iload_n 1, 1) := by decide +kernel
theorem dL_loudness_2 : decode cL_loudness 2 = .ok (.invokevirtual 115, 3) := by decide +kernel
theorem dL_loudness_5 : decode cL_loudness 5 = .ok (.ireturn, 1) := by decide +kernel
theorem dL_loudness_6 : decode cL_loudness 6 = .ok (.astore_n 2, 1) := by decide +kernel
theorem dL_loudness_7 : decode cL_loudness 7 = .ok (.ldc 28, 2) := by decide +kernel
theorem dL_loudness_9 : decode cL_loudness 9 = .ok (.ireturn, 1) := by decide +kernel
theorem dL_setPaper_0 : decode cL_setPaper 0 = .ok (.aload_n 0, 1) := by decide +kernel
theorem dL_setPaper_1 : decode cL_setPaper 1 = .ok (.iload_n 1, 1) := by decide +kernel
theorem dL_setPaper_2 : decode cL_setPaper 2 = .ok (.iload_n 2, 1) := by decide +kernel
theorem dL_setPaper_3 : decode cL_setPaper 3 = .ok (.iload_n 3, 1) := by decide +kernel
theorem dL_setPaper_4 : decode cL_setPaper 4 = .ok (.invokevirtual 118, 3) := by decide +kernel
theorem dL_setPaper_7 : decode cL_setPaper 7 = .ok (.iconst 0, 1) := by decide +kernel
theorem dL_setPaper_8 : decode cL_setPaper 8 = .ok (.ireturn, 1) := by decide +kernel
theorem dL_setPaper_9 : decode cL_setPaper 9 = .ok (.astore 4, 2) := by decide +kernel
theorem dL_setPaper_11 : decode cL_setPaper 11 = .ok (.ldc 18, 2) := by decide +kernel
theorem dL_setPaper_13 : decode cL_setPaper 13 = .ok (.ireturn, 1) := by decide +kernel
theorem dL_items_0 : decode cL_items 0 = .ok (.aload_n 0, 1) := by decide +kernel
theorem dL_items_1 : decode cL_items 1 = .ok (.iload_n 1, 1) := by decide +kernel
theorem dL_items_2 : decode cL_items 2 = .ok (.invokevirtual 122, 3) := by decide +kernel
theorem dL_items_5 : decode cL_items 5 = .ok (.ireturn, 1) := by decide +kernel
theorem dL_items_6 : decode cL_items 6 = .ok (.astore_n 2, 1) := by decide +kernel
theorem dL_items_7 : decode cL_items 7 = .ok (.ldc 18, 2) := by decide +kernel
theorem dL_items_9 : decode cL_items 9 = .ok (.ireturn, 1) := by decide +kernel
theorem dL_items_10 : decode cL_items 10 = .ok (.astore_n 2, 1) := by decide +kernel
theorem dL_items_11 : decode cL_items 11 = .ok (.ldc 21, 2) := by decide +kernel
theorem dL_items_13 : decode cL_items 13 = .ok (.ireturn, 1) := by decide +kernel
theorem dL_itemKind_0 : decode cL_itemKind 0 = .ok (.aload_n 0, 1) := by decide +kernel
theorem dL_itemKind_1 : decode cL_itemKind 1 = .ok (.iload_n 1, 1) := by decide +kernel
theorem dL_itemKind_2 : decode cL_itemKind 2 = .ok (.iload_n 2, 1) := by decide +kernel
theorem dL_itemKind_3 : decode cL_itemKind 3 = .ok (.invokevirtual 125, 3) := by decide +kernel
theorem dL_itemKind_6 : decode cL_itemKind 6 = .ok (.ireturn, 1) := by decide +kernel
theorem dL_itemKind_7 : decode cL_itemKind 7 = .ok (.astore_n 3, 1) := by decide +kernel
theorem dL_itemKind_8 : decode cL_itemKind 8 = .ok (.ldc 18, 2) := by decide +kernel
theorem dL_itemKind_10 : decode cL_itemKind 10 = .ok (.ireturn, 1) := by decide +kernel
theorem dL_itemKind_11 : decode cL_itemKind 11 = .ok (.astore_n 3, 1) := by decide +kernel
theorem dL_itemKind_12 : decode cL_itemKind 12 = .ok (.ldc 21, 2) := by decide +kernel
theorem dL_itemKind_14 : decode cL_itemKind 14 = .ok (.ireturn, 1) := by decide +kernel
theorem dL_itemKind_15 : decode cL_itemKind 15 = .ok (.astore_n 3, 1) := by decide +kernel
theorem dL_itemKind_16 : decode cL_itemKind 16 = .ok (.ldc 28, 2) := by decide +kernel
theorem dL_itemKind_18 : decode cL_itemKind 18 = .ok (.ireturn, 1) := by decide +kernel
theorem dL_itemBar_0 : decode cL_itemBar 0 = .ok (.aload_n 0, 1) := by decide +kernel
theorem dL_itemBar_1 : decode cL_itemBar 1 = .ok (.iload_n 1, 1) := by decide +kernel
theorem dL_itemBar_2 : decode cL_itemBar 2 = .ok (.iload_n 2, 1) := by decide +kernel
theorem dL_itemBar_3 : decode cL_itemBar 3 = .ok (.invokevirtual 128, 3) := by decide +kernel
theorem dL_itemBar_6 : decode cL_itemBar 6 = .ok (.ireturn, 1) := by decide +kernel
theorem dL_itemBar_7 : decode cL_itemBar 7 = .ok (.astore_n 3, 1) := by decide +kernel
theorem dL_itemBar_8 : decode cL_itemBar 8 = .ok (.ldc 18, 2) := by decide +kernel
theorem dL_itemBar_10 : decode cL_itemBar 10 = .ok (.ireturn, 1) := by decide +kernel
theorem dL_itemBar_11 : decode cL_itemBar 11 = .ok (.astore_n 3, 1) := by decide +kernel
theorem dL_itemBar_12 : decode cL_itemBar 12 = .ok (.ldc 21, 2) := by decide +kernel
theorem dL_itemBar_14 : decode cL_itemBar 14 = .ok (.ireturn, 1) := by decide +kernel
theorem dL_itemBar_15 : decode cL_itemBar 15 = .ok (.astore_n 3, 1) := by decide +kernel
theorem dL_itemBar_16 : decode cL_itemBar 16 = .ok (.ldc 28, 2) := by decide +kernel
theorem dL_itemBar_18 : decode cL_itemBar 18 = .ok (.ireturn, 1) := by decide +kernel
theorem dL_itemBars_0 : decode cL_itemBars 0 = .ok (.aload_n 0, 1) := by decide +kernel
theorem dL_itemBars_1 : decode cL_itemBars 1 = .ok (.iload_n 1, 1) := by decide +kernel
theorem dL_itemBars_2 : decode cL_itemBars 2 = .ok (.iload_n 2, 1) := by decide +kernel
theorem dL_itemBars_3 : decode cL_itemBars 3 = .ok (.invokevirtual 131, 3) := by decide +kernel
theorem dL_itemBars_6 : decode cL_itemBars 6 = .ok (.ireturn, 1) := by decide +kernel
theorem dL_itemBars_7 : decode cL_itemBars 7 = .ok (.astore_n 3, 1) := by decide +kernel
theorem dL_itemBars_8 : decode cL_itemBars 8 = .ok (.ldc 18, 2) := by decide +kernel
theorem dL_itemBars_10 : decode cL_itemBars 10 = .ok (.ireturn, 1) := by decide +kernel
theorem dL_itemBars_11 : decode cL_itemBars 11 = .ok (.astore_n 3, 1) := by decide +kernel
theorem dL_itemBars_12 : decode cL_itemBars 12 = .ok (.ldc 21, 2) := by decide +kernel
theorem dL_itemBars_14 : decode cL_itemBars 14 = .ok (.ireturn, 1) := by decide +kernel
theorem dL_itemBars_15 : decode cL_itemBars 15 = .ok (.astore_n 3, 1) := by decide +kernel
theorem dL_itemBars_16 : decode cL_itemBars 16 = .ok (.ldc 28, 2) := by decide +kernel
theorem dL_itemBars_18 : decode cL_itemBars 18 = .ok (.ireturn, 1) := by decide +kernel
theorem dL_cue_0 : decode cL_cue 0 = .ok (.aload_n 0, 1) := by decide +kernel
theorem dL_cue_1 : decode cL_cue 1 = .ok (.iload_n 1, 1) := by decide +kernel
theorem dL_cue_2 : decode cL_cue 2 = .ok (.iload_n 2, 1) := by decide +kernel
theorem dL_cue_3 : decode cL_cue 3 = .ok (.invokevirtual 134, 3) := by decide +kernel
theorem dL_cue_6 : decode cL_cue 6 = .ok (.ireturn, 1) := by decide +kernel
theorem dL_cue_7 : decode cL_cue 7 = .ok (.astore_n 3, 1) := by decide +kernel
theorem dL_cue_8 : decode cL_cue 8 = .ok (.ldc 18, 2) := by decide +kernel
theorem dL_cue_10 : decode cL_cue 10 = .ok (.ireturn, 1) := by decide +kernel
theorem dL_cue_11 : decode cL_cue 11 = .ok (.astore_n 3, 1) := by decide +kernel
theorem dL_cue_12 : decode cL_cue 12 = .ok (.ldc 21, 2) := by decide +kernel
theorem dL_cue_14 : decode cL_cue 14 = .ok (.ireturn, 1) := by decide +kernel
theorem dL_cue_15 : decode cL_cue 15 = .ok (.astore_n 3, 1) := by decide +kernel
theorem dL_cue_16 : decode cL_cue 16 = .ok (.ldc 28, 2) := by decide +kernel
theorem dL_cue_18 : decode cL_cue 18 = .ok (.ireturn, 1) := by decide +kernel
theorem dL_itemWidth_0 : decode cL_itemWidth 0 = .ok (.aload_n 0, 1) := by decide +kernel
theorem dL_itemWidth_1 : decode cL_itemWidth 1 = .ok (.iload_n 1, 1) := by decide +kernel
theorem dL_itemWidth_2 : decode cL_itemWidth 2 = .ok (.iload_n 2, 1) := by decide +kernel
theorem dL_itemWidth_3 : decode cL_itemWidth 3 = .ok (.invokevirtual 137, 3) := by decide +kernel
theorem dL_itemWidth_6 : decode cL_itemWidth 6 = .ok (.ireturn, 1) := by decide +kernel
theorem dL_itemWidth_7 : decode cL_itemWidth 7 = .ok (.astore_n 3, 1) := by decide +kernel
theorem dL_itemWidth_8 : decode cL_itemWidth 8 = .ok (.ldc 18, 2) := by decide +kernel
theorem dL_itemWidth_10 : decode cL_itemWidth 10 = .ok (.ireturn, 1) := by decide +kernel
theorem dL_itemWidth_11 : decode cL_itemWidth 11 = .ok (.astore_n 3, 1) := by decide +kernel
theorem dL_itemWidth_12 : decode cL_itemWidth 12 = .ok (.ldc 21, 2) := by decide +kernel
theorem dL_itemWidth_14 : decode cL_itemWidth 14 = .ok (.ireturn, 1) := by decide +kernel
theorem dL_itemWidth_15 : decode cL_itemWidth 15 = .ok (.astore_n 3, 1) := by decide +kernel
theorem dL_itemWidth_16 : decode cL_itemWidth 16 = .ok (.ldc 28, 2) := by decide +kernel
theorem dL_itemWidth_18 : decode cL_itemWidth 18 = .ok (.ireturn, 1) := by decide +kernel
theorem dL_lines_0 : decode cL_lines 0 = .ok (.aload_n 0, 1) := by decide +kernel
theorem dL_lines_1 : decode cL_lines 1 = .ok (.iload_n 1, 1) := by decide +kernel
theorem dL_lines_2 : decode cL_lines 2 = .ok (.invokevirtual 140, 3) := by decide +kernel
theorem dL_lines_5 : decode cL_lines 5 = .ok (.ireturn, 1) := by decide +kernel
theorem dL_lines_6 : decode cL_lines 6 = .ok (.astore_n 2, 1) := by decide +kernel
theorem dL_lines_7 : decode cL_lines 7 = .ok (.ldc 18, 2) := by decide +kernel
theorem dL_lines_9 : decode cL_lines 9 = .ok (.ireturn, 1) := by decide +kernel
theorem dL_lines_10 : decode cL_lines 10 = .ok (.astore_n 2, 1) := by decide +kernel
theorem dL_lines_11 : decode cL_lines 11 = .ok (.ldc 21, 2) := by decide +kernel
theorem dL_lines_13 : decode cL_lines 13 = .ok (.ireturn, 1) := by decide +kernel
theorem dL_firstItem_0 : decode cL_firstItem 0 = .ok (.aload_n 0, 1) := by decide +kernel
theorem dL_firstItem_1 : decode cL_firstItem 1 = .ok (.iload_n 1, 1) := by decide +kernel
theorem dL_firstItem_2 : decode cL_firstItem 2 = .ok (.iload_n 2, 1) := by decide +kernel
theorem dL_firstItem_3 : decode cL_firstItem 3 = .ok (.invokevirtual 143, 3) := by decide +kernel
theorem dL_firstItem_6 : decode cL_firstItem 6 = .ok (.ireturn, 1) := by decide +kernel
theorem dL_firstItem_7 : decode cL_firstItem 7 = .ok (.astore_n 3, 1) := by decide +kernel
theorem dL_firstItem_8 : decode cL_firstItem 8 = .ok (.ldc 18, 2) := by decide +kernel
theorem dL_firstItem_10 : decode cL_firstItem 10 = .ok (.ireturn, 1) := by decide +kernel
theorem dL_firstItem_11 : decode cL_firstItem 11 = .ok (.astore_n 3, 1) := by decide +kernel
theorem dL_firstItem_12 : decode cL_firstItem 12 = .ok (.ldc 21, 2) := by decide +kernel
theorem dL_firstItem_14 : decode cL_firstItem 14 = .ok (.ireturn, 1) := by decide +kernel
theorem dL_firstItem_15 : decode cL_firstItem 15 = .ok (.astore_n 3, 1) := by decide +kernel
theorem dL_firstItem_16 : decode cL_firstItem 16 = .ok (.ldc 28, 2) := by decide +kernel
theorem dL_firstItem_18 : decode cL_firstItem 18 = .ok (.ireturn, 1) := by decide +kernel
theorem dL_badness_0 : decode cL_badness 0 = .ok (.aload_n 0, 1) := by decide +kernel
theorem dL_badness_1 : decode cL_badness 1 = .ok (.iload_n 1, 1) := by decide +kernel
theorem dL_badness_2 : decode cL_badness 2 = .ok (.invokevirtual 146, 3) := by decide +kernel
theorem dL_badness_5 : decode cL_badness 5 = .ok (.ireturn, 1) := by decide +kernel
theorem dL_badness_6 : decode cL_badness 6 = .ok (.astore_n 2, 1) := by decide +kernel
theorem dL_badness_7 : decode cL_badness 7 = .ok (.ldc 18, 2) := by decide +kernel
theorem dL_badness_9 : decode cL_badness 9 = .ok (.ireturn, 1) := by decide +kernel
theorem dL_badness_10 : decode cL_badness 10 = .ok (.astore_n 2, 1) := by decide +kernel
theorem dL_badness_11 : decode cL_badness 11 = .ok (.ldc 21, 2) := by decide +kernel
theorem dL_badness_13 : decode cL_badness 13 = .ok (.ireturn, 1) := by decide +kernel
theorem dL_pages_0 : decode cL_pages 0 = .ok (.aload_n 0, 1) := by decide +kernel
theorem dL_pages_1 : decode cL_pages 1 = .ok (.iload_n 1, 1) := by decide +kernel
theorem dL_pages_2 : decode cL_pages 2 = .ok (.invokevirtual 149, 3) := by decide +kernel
theorem dL_pages_5 : decode cL_pages 5 = .ok (.ireturn, 1) := by decide +kernel
theorem dL_pages_6 : decode cL_pages 6 = .ok (.astore_n 2, 1) := by decide +kernel
theorem dL_pages_7 : decode cL_pages 7 = .ok (.ldc 18, 2) := by decide +kernel
theorem dL_pages_9 : decode cL_pages 9 = .ok (.ireturn, 1) := by decide +kernel
theorem dL_pages_10 : decode cL_pages 10 = .ok (.astore_n 2, 1) := by decide +kernel
theorem dL_pages_11 : decode cL_pages 11 = .ok (.ldc 21, 2) := by decide +kernel
theorem dL_pages_13 : decode cL_pages 13 = .ok (.ireturn, 1) := by decide +kernel
theorem dL_pageLines_0 : decode cL_pageLines 0 = .ok (.aload_n 0, 1) := by decide +kernel
theorem dL_pageLines_1 : decode cL_pageLines 1 = .ok (.iload_n 1, 1) := by decide +kernel
theorem dL_pageLines_2 : decode cL_pageLines 2 = .ok (.iload_n 2, 1) := by decide +kernel
theorem dL_pageLines_3 : decode cL_pageLines 3 = .ok (.invokevirtual 152, 3) := by decide +kernel
theorem dL_pageLines_6 : decode cL_pageLines 6 = .ok (.ireturn, 1) := by decide +kernel
theorem dL_pageLines_7 : decode cL_pageLines 7 = .ok (.astore_n 3, 1) := by decide +kernel
theorem dL_pageLines_8 : decode cL_pageLines 8 = .ok (.ldc 18, 2) := by decide +kernel
theorem dL_pageLines_10 : decode cL_pageLines 10 = .ok (.ireturn, 1) := by decide +kernel
theorem dL_pageLines_11 : decode cL_pageLines 11 = .ok (.astore_n 3, 1) := by decide +kernel
theorem dL_pageLines_12 : decode cL_pageLines 12 = .ok (.ldc 21, 2) := by decide +kernel
theorem dL_pageLines_14 : decode cL_pageLines 14 = .ok (.ireturn, 1) := by decide +kernel
theorem dL_pageLines_15 : decode cL_pageLines 15 = .ok (.astore_n 3, 1) := by decide +kernel
theorem dL_pageLines_16 : decode cL_pageLines 16 = .ok (.ldc 28, 2) := by decide +kernel
theorem dL_pageLines_18 : decode cL_pageLines 18 = .ok (.ireturn, 1) := by decide +kernel
theorem dL_pageOf_0 : decode cL_pageOf 0 = .ok (.aload_n 0, 1) := by decide +kernel
theorem dL_pageOf_1 : decode cL_pageOf 1 = .ok (.iload_n 1, 1) := by decide +kernel
theorem dL_pageOf_2 : decode cL_pageOf 2 = .ok (.iload_n 2, 1) := by decide +kernel
theorem dL_pageOf_3 : decode cL_pageOf 3 = .ok (.invokevirtual 155, 3) := by decide +kernel
theorem dL_pageOf_6 : decode cL_pageOf 6 = .ok (.ireturn, 1) := by decide +kernel
theorem dL_pageOf_7 : decode cL_pageOf 7 = .ok (.astore_n 3, 1) := by decide +kernel
theorem dL_pageOf_8 : decode cL_pageOf 8 = .ok (.ldc 18, 2) := by decide +kernel
theorem dL_pageOf_10 : decode cL_pageOf 10 = .ok (.ireturn, 1) := by decide +kernel
theorem dL_pageOf_11 : decode cL_pageOf 11 = .ok (.astore_n 3, 1) := by decide +kernel
theorem dL_pageOf_12 : decode cL_pageOf 12 = .ok (.ldc 21, 2) := by decide +kernel
theorem dL_pageOf_14 : decode cL_pageOf 14 = .ok (.ireturn, 1) := by decide +kernel
theorem dL_pageOf_15 : decode cL_pageOf 15 = .ok (.astore_n 3, 1) := by decide +kernel
theorem dL_pageOf_16 : decode cL_pageOf 16 = .ok (.ldc 28, 2) := by decide +kernel
theorem dL_pageOf_18 : decode cL_pageOf 18 = .ok (.ireturn, 1) := by decide +kernel
theorem dL_pageTurns_0 : decode cL_pageTurns 0 = .ok (.aload_n 0, 1) := by decide +kernel
theorem dL_pageTurns_1 : decode cL_pageTurns 1 = .ok (.iload_n 1, 1) := by decide +kernel
theorem dL_pageTurns_2 : decode cL_pageTurns 2 = .ok (.invokevirtual 158, 3) := by decide +kernel
theorem dL_pageTurns_5 : decode cL_pageTurns 5 = .ok (.ireturn, 1) := by decide +kernel
theorem dL_pageTurns_6 : decode cL_pageTurns 6 = .ok (.astore_n 2, 1) := by decide +kernel
theorem dL_pageTurns_7 : decode cL_pageTurns 7 = .ok (.ldc 18, 2) := by decide +kernel
theorem dL_pageTurns_9 : decode cL_pageTurns 9 = .ok (.ireturn, 1) := by decide +kernel
theorem dL_pageTurns_10 : decode cL_pageTurns 10 = .ok (.astore_n 2, 1) := by decide +kernel
theorem dL_pageTurns_11 : decode cL_pageTurns 11 = .ok (.ldc 21, 2) := by decide +kernel
theorem dL_pageTurns_13 : decode cL_pageTurns 13 = .ok (.ireturn, 1) := by decide +kernel
theorem dL_turnBar_0 : decode cL_turnBar 0 = .ok (.aload_n 0, 1) := by decide +kernel
theorem dL_turnBar_1 : decode cL_turnBar 1 = .ok (.iload_n 1, 1) := by decide +kernel
theorem dL_turnBar_2 : decode cL_turnBar 2 = .ok (.iload_n 2, 1) := by decide +kernel
theorem dL_turnBar_3 : decode cL_turnBar 3 = .ok (.invokevirtual 161, 3) := by decide +kernel
theorem dL_turnBar_6 : decode cL_turnBar 6 = .ok (.ireturn, 1) := by decide +kernel
theorem dL_turnBar_7 : decode cL_turnBar 7 = .ok (.astore_n 3, 1) := by decide +kernel
theorem dL_turnBar_8 : decode cL_turnBar 8 = .ok (.ldc 18, 2) := by decide +kernel
theorem dL_turnBar_10 : decode cL_turnBar 10 = .ok (.ireturn, 1) := by decide +kernel
theorem dL_turnBar_11 : decode cL_turnBar 11 = .ok (.astore_n 3, 1) := by decide +kernel
theorem dL_turnBar_12 : decode cL_turnBar 12 = .ok (.ldc 21, 2) := by decide +kernel
theorem dL_turnBar_14 : decode cL_turnBar 14 = .ok (.ireturn, 1) := by decide +kernel
theorem dL_turnBar_15 : decode cL_turnBar 15 = .ok (.astore_n 3, 1) := by decide +kernel
theorem dL_turnBar_16 : decode cL_turnBar 16 = .ok (.ldc 28, 2) := by decide +kernel
theorem dL_turnBar_18 : decode cL_turnBar 18 = .ok (.ireturn, 1) := by decide +kernel
theorem dL_turnTime_0 : decode cL_turnTime 0 = .ok (.aload_n 0, 1) := by decide +kernel
theorem dL_turnTime_1 : decode cL_turnTime 1 = .ok (.iload_n 1, 1) := by decide +kernel
theorem dL_turnTime_2 : decode cL_turnTime 2 = .ok (.iload_n 2, 1) := by decide +kernel
theorem dL_turnTime_3 : decode cL_turnTime 3 = .ok (.invokevirtual 164, 3) := by decide +kernel
theorem dL_turnTime_6 : decode cL_turnTime 6 = .ok (.ireturn, 1) := by decide +kernel
theorem dL_turnTime_7 : decode cL_turnTime 7 = .ok (.astore_n 3, 1) := by decide +kernel
theorem dL_turnTime_8 : decode cL_turnTime 8 = .ok (.ldc 18, 2) := by decide +kernel
theorem dL_turnTime_10 : decode cL_turnTime 10 = .ok (.ireturn, 1) := by decide +kernel
theorem dL_turnTime_11 : decode cL_turnTime 11 = .ok (.astore_n 3, 1) := by decide +kernel
theorem dL_turnTime_12 : decode cL_turnTime 12 = .ok (.ldc 21, 2) := by decide +kernel
theorem dL_turnTime_14 : decode cL_turnTime 14 = .ok (.ireturn, 1) := by decide +kernel
theorem dL_turnTime_15 : decode cL_turnTime 15 = .ok (.astore_n 3, 1) := by decide +kernel
theorem dL_turnTime_16 : decode cL_turnTime 16 = .ok (.ldc 28, 2) := by decide +kernel
theorem dL_turnTime_18 : decode cL_turnTime 18 = .ok (.ireturn, 1) := by decide +kernel
theorem dL_turnRest_0 : decode cL_turnRest 0 = .ok (.aload_n 0, 1) := by decide +kernel
theorem dL_turnRest_1 : decode cL_turnRest 1 = .ok (.iload_n 1, 1) := by decide +kernel
theorem dL_turnRest_2 : decode cL_turnRest 2 = .ok (.iload_n 2, 1) := by decide +kernel
theorem dL_turnRest_3 : decode cL_turnRest 3 = .ok (.invokevirtual 167, 3) := by decide +kernel
theorem dL_turnRest_6 : decode cL_turnRest 6 = .ok (.ireturn, 1) := by decide +kernel
theorem dL_turnRest_7 : decode cL_turnRest 7 = .ok (.astore_n 3, 1) := by decide +kernel
theorem dL_turnRest_8 : decode cL_turnRest 8 = .ok (.ldc 18, 2) := by decide +kernel
theorem dL_turnRest_10 : decode cL_turnRest 10 = .ok (.ireturn, 1) := by decide +kernel
theorem dL_turnRest_11 : decode cL_turnRest 11 = .ok (.astore_n 3, 1) := by decide +kernel
theorem dL_turnRest_12 : decode cL_turnRest 12 = .ok (.ldc 21, 2) := by decide +kernel
theorem dL_turnRest_14 : decode cL_turnRest 14 = .ok (.ireturn, 1) := by decide +kernel
theorem dL_turnRest_15 : decode cL_turnRest 15 = .ok (.astore_n 3, 1) := by decide +kernel
theorem dL_turnRest_16 : decode cL_turnRest 16 = .ok (.ldc 28, 2) := by decide +kernel
theorem dL_turnRest_18 : decode cL_turnRest 18 = .ok (.ireturn, 1) := by decide +kernel
theorem dL_badTurns_0 : decode cL_badTurns 0 = .ok (.aload_n 0, 1) := by decide +kernel
theorem dL_badTurns_1 : decode cL_badTurns 1 = .ok (.iload_n 1, 1) := by decide +kernel
theorem dL_badTurns_2 : decode cL_badTurns 2 = .ok (.invokevirtual 170, 3) := by decide +kernel
theorem dL_badTurns_5 : decode cL_badTurns 5 = .ok (.ireturn, 1) := by decide +kernel
theorem dL_badTurns_6 : decode cL_badTurns 6 = .ok (.astore_n 2, 1) := by decide +kernel
theorem dL_badTurns_7 : decode cL_badTurns 7 = .ok (.ldc 18, 2) := by decide +kernel
theorem dL_badTurns_9 : decode cL_badTurns 9 = .ok (.ireturn, 1) := by decide +kernel
theorem dL_badTurns_10 : decode cL_badTurns 10 = .ok (.astore_n 2, 1) := by decide +kernel
theorem dL_badTurns_11 : decode cL_badTurns 11 = .ok (.ldc 21, 2) := by decide +kernel
theorem dL_badTurns_13 : decode cL_badTurns 13 = .ok (.ireturn, 1) := by decide +kernel
theorem dL_sheets_0 : decode cL_sheets 0 = .ok (.aload_n 0, 1) := by decide +kernel
theorem dL_sheets_1 : decode cL_sheets 1 = .ok (.iload_n 1, 1) := by decide +kernel
theorem dL_sheets_2 : decode cL_sheets 2 = .ok (.invokevirtual 173, 3) := by decide +kernel
theorem dL_sheets_5 : decode cL_sheets 5 = .ok (.ireturn, 1) := by decide +kernel
theorem dL_sheets_6 : decode cL_sheets 6 = .ok (.astore_n 2, 1) := by decide +kernel
theorem dL_sheets_7 : decode cL_sheets 7 = .ok (.ldc 18, 2) := by decide +kernel
theorem dL_sheets_9 : decode cL_sheets 9 = .ok (.ireturn, 1) := by decide +kernel
theorem dL_sheets_10 : decode cL_sheets 10 = .ok (.astore_n 2, 1) := by decide +kernel
theorem dL_sheets_11 : decode cL_sheets 11 = .ok (.ldc 21, 2) := by decide +kernel
theorem dL_sheets_13 : decode cL_sheets 13 = .ok (.ireturn, 1) := by decide +kernel
theorem dL_sheetPage_0 : decode cL_sheetPage 0 = .ok (.aload_n 0, 1) := by decide +kernel
theorem dL_sheetPage_1 : decode cL_sheetPage 1 = .ok (.iload_n 1, 1) := by decide +kernel
theorem dL_sheetPage_2 : decode cL_sheetPage 2 = .ok (.iload_n 2, 1) := by decide +kernel
theorem dL_sheetPage_3 : decode cL_sheetPage 3 = .ok (.iload_n 3, 1) := by decide +kernel
theorem dL_sheetPage_4 : decode cL_sheetPage 4 = .ok (.iload 4, 2) := by decide +kernel
theorem dL_sheetPage_6 : decode cL_sheetPage 6 = .ok (.invokevirtual 176, 3) := by decide +kernel
theorem dL_sheetPage_9 : decode cL_sheetPage 9 = .ok (.ireturn, 1) := by decide +kernel
theorem dL_sheetPage_10 : decode cL_sheetPage 10 = .ok (.astore 5, 2) := by decide +kernel
theorem dL_sheetPage_12 : decode cL_sheetPage 12 = .ok (.ldc 18, 2) := by decide +kernel
theorem dL_sheetPage_14 : decode cL_sheetPage 14 = .ok (.ireturn, 1) := by decide +kernel
theorem dL_sheetPage_15 : decode cL_sheetPage 15 = .ok (.astore 5, 2) := by decide +kernel
theorem dL_sheetPage_17 : decode cL_sheetPage 17 = .ok (.ldc 21, 2) := by decide +kernel
theorem dL_sheetPage_19 : decode cL_sheetPage 19 = .ok (.ireturn, 1) := by decide +kernel
theorem dL_sheetPage_20 : decode cL_sheetPage 20 = .ok (.astore 5, 2) := by decide +kernel
theorem dL_sheetPage_22 : decode cL_sheetPage 22 = .ok (.ldc 28, 2) := by decide +kernel
theorem dL_sheetPage_24 : decode cL_sheetPage 24 = .ok (.ireturn, 1) := by decide +kernel
theorem dL_ticksOf_0 : decode cL_ticksOf 0 = .ok (.bipush 96, 2) := by decide +kernel
theorem dL_ticksOf_2 : decode cL_ticksOf 2 = .ok (.iload_n 0, 1) := by decide +kernel
theorem dL_ticksOf_3 : decode cL_ticksOf 3 = .ok (.ishr, 1) := by decide +kernel
theorem dL_ticksOf_4 : decode cL_ticksOf 4 = .ok (.istore_n 2, 1) := by decide +kernel
theorem dL_ticksOf_5 : decode cL_ticksOf 5 = .ok (.iload_n 1, 1) := by decide +kernel
theorem dL_ticksOf_6 : decode cL_ticksOf 6 = .ok (.iconst 1, 1) := by decide +kernel
theorem dL_ticksOf_7 : decode cL_ticksOf 7 = .ok (.if_icmp .ne 11, 3) := by decide +kernel
theorem dL_ticksOf_10 : decode cL_ticksOf 10 = .ok (.iload_n 2, 1) := by decide +kernel
theorem dL_ticksOf_11 : decode cL_ticksOf 11 = .ok (.iconst 3, 1) := by decide +kernel
theorem dL_ticksOf_12 : decode cL_ticksOf 12 = .ok (.imul, 1) := by decide +kernel
theorem dL_ticksOf_13 : decode cL_ticksOf 13 = .ok (.iconst 2, 1) := by decide +kernel
theorem dL_ticksOf_14 : decode cL_ticksOf 14 = .ok (.idiv, 1) := by decide +kernel
theorem dL_ticksOf_15 : decode cL_ticksOf 15 = .ok (.goto 17, 3) := by decide +kernel
theorem dL_ticksOf_18 : decode cL_ticksOf 18 = .ok (.iload_n 1, 1) := by decide +kernel
theorem dL_ticksOf_19 : decode cL_ticksOf 19 = .ok (.iconst 2, 1) := by decide +kernel
theorem dL_ticksOf_20 : decode cL_ticksOf 20 = .ok (.if_icmp .ne 11, 3) := by decide +kernel
theorem dL_ticksOf_23 : decode cL_ticksOf 23 = .ok (.iload_n 2, 1) := by decide +kernel
theorem dL_ticksOf_24 : decode cL_ticksOf 24 = .ok (.iconst 2, 1) := by decide +kernel
theorem dL_ticksOf_25 : decode cL_ticksOf 25 = .ok (.imul, 1) := by decide +kernel
theorem dL_ticksOf_26 : decode cL_ticksOf 26 = .ok (.iconst 3, 1) := by decide +kernel
theorem dL_ticksOf_27 : decode cL_ticksOf 27 = .ok (.idiv, 1) := by decide +kernel
theorem dL_ticksOf_28 : decode cL_ticksOf 28 = .ok (.goto 4, 3) := by decide +kernel
theorem dL_ticksOf_31 : decode cL_ticksOf 31 = .ok (.iload_n 2, 1) := by decide +kernel
theorem dL_ticksOf_32 : decode cL_ticksOf 32 = .ok (.ireturn, 1) := by decide +kernel
theorem dL_isPlayed_0 : decode cL_isPlayed 0 = .ok (.iconst 0, 1) := by decide +kernel
theorem dL_isPlayed_1 : decode cL_isPlayed 1 = .ok (.istore_n 2, 1) := by decide +kernel
theorem dL_isPlayed_2 : decode cL_isPlayed 2 = .ok (.aload_n 0, 1) := by decide +kernel
theorem dL_isPlayed_3 : decode cL_isPlayed 3 = .ok (.invokevirtual 180, 3) := by decide +kernel
theorem dL_isPlayed_6 : decode cL_isPlayed 6 = .ok (.istore_n 3, 1) := by decide +kernel
theorem dL_isPlayed_7 : decode cL_isPlayed 7 = .ok (.iconst 0, 1) := by decide +kernel
theorem dL_isPlayed_8 : decode cL_isPlayed 8 = .ok (.istore 4, 2) := by decide +kernel
theorem dL_isPlayed_10 : decode cL_isPlayed 10 = .ok (.iload 4, 2) := by decide +kernel
theorem dL_isPlayed_12 : decode cL_isPlayed 12 = .ok (.iload_n 3, 1) := by decide +kernel
theorem dL_isPlayed_13 : decode cL_isPlayed 13 = .ok (.if_icmp .ge 77, 3) := by decide +kernel
theorem dL_isPlayed_16 : decode cL_isPlayed 16 = .ok (.aload_n 0, 1) := by decide +kernel
theorem dL_isPlayed_17 : decode cL_isPlayed 17 = .ok (.iload 4, 2) := by decide +kernel
theorem dL_isPlayed_19 : decode cL_isPlayed 19 = .ok (.invokestatic 184, 3) := by decide +kernel
theorem dL_isPlayed_22 : decode cL_isPlayed 22 = .ok (.istore 5, 2) := by decide +kernel
theorem dL_isPlayed_24 : decode cL_isPlayed 24 = .ok (.iload 5, 2) := by decide +kernel
theorem dL_isPlayed_26 : decode cL_isPlayed 26 = .ok (.ifCond .lt 47, 3) := by decide +kernel
theorem dL_isPlayed_29 : decode cL_isPlayed 29 = .ok (.iload 5, 2) := by decide +kernel
theorem dL_isPlayed_31 : decode cL_isPlayed 31 = .ok (.aload_n 1, 1) := by decide +kernel
theorem dL_isPlayed_32 : decode cL_isPlayed 32 = .ok (.iconst 0, 1) := by decide +kernel
theorem dL_isPlayed_33 : decode cL_isPlayed 33 = .ok (.iaload, 1) := by decide +kernel
theorem dL_isPlayed_34 : decode cL_isPlayed 34 = .ok (.if_icmp .ge 39, 3) := by decide +kernel
theorem dL_isPlayed_37 : decode cL_isPlayed 37 = .ok (.aload_n 0, 1) := by decide +kernel
theorem dL_isPlayed_38 : decode cL_isPlayed 38 = .ok (.iload 4, 2) := by decide +kernel
theorem dL_isPlayed_40 : decode cL_isPlayed 40 = .ok (.invokestatic 189, 3) := by decide +kernel
theorem dL_isPlayed_43 : decode cL_isPlayed 43 = .ok (.iload_n 2, 1) := by decide +kernel
theorem dL_isPlayed_44 : decode cL_isPlayed 44 = .ok (.if_icmp .ne 29, 3) := by decide +kernel
theorem dL_isPlayed_47 : decode cL_isPlayed 47 = .ok (.aload_n 0, 1) := by decide +kernel
theorem dL_isPlayed_48 : decode cL_isPlayed 48 = .ok (.iload 5, 2) := by decide +kernel
theorem dL_isPlayed_50 : decode cL_isPlayed 50 = .ok (.invokestatic 191, 3) := by decide +kernel
theorem dL_isPlayed_53 : decode cL_isPlayed 53 = .ok (.aload_n 0, 1) := by decide +kernel
theorem dL_isPlayed_54 : decode cL_isPlayed 54 = .ok (.iload 5, 2) := by decide +kernel
theorem dL_isPlayed_56 : decode cL_isPlayed 56 = .ok (.invokestatic 193, 3) := by decide +kernel
theorem dL_isPlayed_59 : decode cL_isPlayed 59 = .ok (.sipush 2500, 3) := by decide +kernel
theorem dL_isPlayed_62 : decode cL_isPlayed 62 = .ok (.imul, 1) := by decide +kernel
theorem dL_isPlayed_63 : decode cL_isPlayed 63 = .ok (.aload_n 0, 1) := by decide +kernel
theorem dL_isPlayed_64 : decode cL_isPlayed 64 = .ok (.iload 5, 2) := by decide +kernel
theorem dL_isPlayed_66 : decode cL_isPlayed 66 = .ok (.invokestatic 195, 3) := by decide +kernel
theorem dL_isPlayed_69 : decode cL_isPlayed 69 = .ok (.idiv, 1) := by decide +kernel
theorem dL_isPlayed_70 : decode cL_isPlayed 70 = .ok (.if_icmp .eq 5, 3) := by decide +kernel
theorem dL_isPlayed_73 : decode cL_isPlayed 73 = .ok (.iconst 0, 1) := by decide +kernel
theorem dL_isPlayed_74 : decode cL_isPlayed 74 = .ok (.ireturn, 1) := by decide +kernel
theorem dL_isPlayed_75 : decode cL_isPlayed 75 = .ok (.iload_n 2, 1) := by decide +kernel
theorem dL_isPlayed_76 : decode cL_isPlayed 76 = .ok (.aload_n 0, 1) := by decide +kernel
theorem dL_isPlayed_77 : decode cL_isPlayed 77 = .ok (.iload 5, 2) := by decide +kernel
theorem dL_isPlayed_79 : decode cL_isPlayed 79 = .ok (.invokestatic 191, 3) := by decide +kernel
theorem dL_isPlayed_82 : decode cL_isPlayed 82 = .ok (.iadd, 1) := by decide +kernel
theorem dL_isPlayed_83 : decode cL_isPlayed 83 = .ok (.istore_n 2, 1) := by decide +kernel
theorem dL_isPlayed_84 : decode cL_isPlayed 84 = .ok (.iinc 4 1, 3) := by decide +kernel
theorem dL_isPlayed_87 : decode cL_isPlayed 87 = .ok (.goto (-77), 3) := by decide +kernel
theorem dL_isPlayed_90 : decode cL_isPlayed 90 = .ok (.aload_n 0, 1) := by decide +kernel
theorem dL_isPlayed_91 : decode cL_isPlayed 91 = .ok (.invokevirtual 197, 3) := by decide +kernel
theorem dL_isPlayed_94 : decode cL_isPlayed 94 = .ok (.iload_n 2, 1) := by decide +kernel
theorem dL_isPlayed_95 : decode cL_isPlayed 95 = .ok (.if_icmp .ne 53, 3) := by decide +kernel
theorem dL_isPlayed_98 : decode cL_isPlayed 98 = .ok (.iload_n 3, 1) := by decide +kernel
theorem dL_isPlayed_99 : decode cL_isPlayed 99 = .ok (.aload_n 1, 1) := by decide +kernel
theorem dL_isPlayed_100 : decode cL_isPlayed 100 = .ok (.iconst 0, 1) := by decide +kernel
theorem dL_isPlayed_101 : decode cL_isPlayed 101 = .ok (.iaload, 1) := by decide +kernel
theorem dL_isPlayed_102 : decode cL_isPlayed 102 = .ok (.if_icmp .lt 46, 3) := by decide +kernel
theorem dL_isPlayed_105 : decode cL_isPlayed 105 = .ok (.iload_n 3, 1) := by decide +kernel
theorem dL_isPlayed_106 : decode cL_isPlayed 106 = .ok (.iconst 2, 1) := by decide +kernel
theorem dL_isPlayed_107 : decode cL_isPlayed 107 = .ok (.aload_n 1, 1) := by decide +kernel
theorem dL_isPlayed_108 : decode cL_isPlayed 108 = .ok (.iconst 0, 1) := by decide +kernel
theorem dL_isPlayed_109 : decode cL_isPlayed 109 = .ok (.iaload, 1) := by decide +kernel
theorem dL_isPlayed_110 : decode cL_isPlayed 110 = .ok (.imul, 1) := by decide +kernel
theorem dL_isPlayed_111 : decode cL_isPlayed 111 = .ok (.if_icmp .gt 37, 3) := by decide +kernel
theorem dL_isPlayed_114 : decode cL_isPlayed 114 = .ok (.aload_n 0, 1) := by decide +kernel
theorem dL_isPlayed_115 : decode cL_isPlayed 115 = .ok (.iload_n 3, 1) := by decide +kernel
theorem dL_isPlayed_116 : decode cL_isPlayed 116 = .ok (.invokestatic 184, 3) := by decide +kernel
theorem dL_isPlayed_119 : decode cL_isPlayed 119 = .ok (.ldc 28, 2) := by decide +kernel
theorem dL_isPlayed_121 : decode cL_isPlayed 121 = .ok (.if_icmp .ne 27, 3) := by decide +kernel
theorem dL_isPlayed_124 : decode cL_isPlayed 124 = .ok (.aload_n 0, 1) := by decide +kernel
theorem dL_isPlayed_125 : decode cL_isPlayed 125 = .ok (.iconst (-1), 1) := by decide +kernel
theorem dL_isPlayed_126 : decode cL_isPlayed 126 = .ok (.invokestatic 189, 3) := by decide +kernel
theorem dL_isPlayed_129 : decode cL_isPlayed 129 = .ok (.ldc 28, 2) := by decide +kernel
theorem dL_isPlayed_131 : decode cL_isPlayed 131 = .ok (.if_icmp .ne 17, 3) := by decide +kernel
theorem dL_isPlayed_134 : decode cL_isPlayed 134 = .ok (.aload_n 0, 1) := by decide +kernel
theorem dL_isPlayed_135 : decode cL_isPlayed 135 = .ok (.invokevirtual 200, 3) := by decide +kernel
theorem dL_isPlayed_138 : decode cL_isPlayed 138 = .ok (.aload_n 1, 1) := by decide +kernel
theorem dL_isPlayed_139 : decode cL_isPlayed 139 = .ok (.iconst 0, 1) := by decide +kernel
theorem dL_isPlayed_140 : decode cL_isPlayed 140 = .ok (.iaload, 1) := by decide +kernel
theorem dL_isPlayed_141 : decode cL_isPlayed 141 = .ok (.if_icmp .ne 7, 3) := by decide +kernel
theorem dL_isPlayed_144 : decode cL_isPlayed 144 = .ok (.iconst 1, 1) := by decide +kernel
theorem dL_isPlayed_145 : decode cL_isPlayed 145 = .ok (.goto 4, 3) := by decide +kernel
theorem dL_isPlayed_148 : decode cL_isPlayed 148 = .ok (.iconst 0, 1) := by decide +kernel
theorem dL_isPlayed_149 : decode cL_isPlayed 149 = .ok (.istore 4, 2) := by decide +kernel
theorem dL_isPlayed_151 : decode cL_isPlayed 151 = .ok (.iconst 0, 1) := by decide +kernel
theorem dL_isPlayed_152 : decode cL_isPlayed 152 = .ok (.istore 5, 2) := by decide +kernel
theorem dL_isPlayed_154 : decode cL_isPlayed 154 = .ok (.iload 5, 2) := by decide +kernel
theorem dL_isPlayed_156 : decode cL_isPlayed 156 = .ok (.iconst 4, 1) := by decide +kernel
theorem dL_isPlayed_157 : decode cL_isPlayed 157 = .ok (.if_icmp .ge 130, 3) := by decide +kernel
theorem dL_isPlayed_160 : decode cL_isPlayed 160 = .ok (.iconst 1, 1) := by decide +kernel
theorem dL_isPlayed_161 : decode cL_isPlayed 161 = .ok (.istore 6, 2) := by decide +kernel
theorem dL_isPlayed_163 : decode cL_isPlayed 163 = .ok (.iconst 0, 1) := by decide +kernel
theorem dL_isPlayed_164 : decode cL_isPlayed 164 = .ok (.istore 7, 2) := by decide +kernel
theorem dL_isPlayed_166 : decode cL_isPlayed 166 = .ok (.iload 7, 2) := by decide +kernel
theorem dL_isPlayed_168 : decode cL_isPlayed 168 = .ok (.aload_n 1, 1) := by decide +kernel
theorem dL_isPlayed_169 : decode cL_isPlayed 169 = .ok (.iconst 0, 1) := by decide +kernel
theorem dL_isPlayed_170 : decode cL_isPlayed 170 = .ok (.iaload, 1) := by decide +kernel
theorem dL_isPlayed_171 : decode cL_isPlayed 171 = .ok (.if_icmp .ge 33, 3) := by decide +kernel
theorem dL_isPlayed_174 : decode cL_isPlayed 174 = .ok (.iload 6, 2) := by decide +kernel
theorem dL_isPlayed_176 : decode cL_isPlayed 176 = .ok (.ifCond .eq 19, 3) := by decide +kernel
theorem dL_isPlayed_179 : decode cL_isPlayed 179 = .ok (.aload_n 0, 1) := by decide +kernel
theorem dL_isPlayed_180 : decode cL_isPlayed 180 = .ok (.iload 5, 2) := by decide +kernel
theorem dL_isPlayed_182 : decode cL_isPlayed 182 = .ok (.iload 7, 2) := by decide +kernel
theorem dL_isPlayed_184 : decode cL_isPlayed 184 = .ok (.invokestatic 203, 3) := by decide +kernel
theorem dL_isPlayed_187 : decode cL_isPlayed 187 = .ok (.iconst 1, 1) := by decide +kernel
theorem dL_isPlayed_188 : decode cL_isPlayed 188 = .ok (.if_icmp .ne 7, 3) := by decide +kernel
theorem dL_isPlayed_191 : decode cL_isPlayed 191 = .ok (.iconst 1, 1) := by decide +kernel
theorem dL_isPlayed_192 : decode cL_isPlayed 192 = .ok (.goto 4, 3) := by decide +kernel
theorem dL_isPlayed_195 : decode cL_isPlayed 195 = .ok (.iconst 0, 1) := by decide +kernel
theorem dL_isPlayed_196 : decode cL_isPlayed 196 = .ok (.istore 6, 2) := by decide +kernel
theorem dL_isPlayed_198 : decode cL_isPlayed 198 = .ok (.iinc 7 1, 3) := by decide +kernel
theorem dL_isPlayed_201 : decode cL_isPlayed 201 = .ok (.goto (-35), 3) := by decide +kernel
theorem dL_isPlayed_204 : decode cL_isPlayed 204 = .ok (.aload_n 0, 1) := by decide +kernel
theorem dL_isPlayed_205 : decode cL_isPlayed 205 = .ok (.iload 5, 2) := by decide +kernel
theorem dL_isPlayed_207 : decode cL_isPlayed 207 = .ok (.invokestatic 206, 3) := by decide +kernel
theorem dL_isPlayed_210 : decode cL_isPlayed 210 = .ok (.istore 7, 2) := by decide +kernel
theorem dL_isPlayed_212 : decode cL_isPlayed 212 = .ok (.iload 4, 2) := by decide +kernel
theorem dL_isPlayed_214 : decode cL_isPlayed 214 = .ok (.ifCond .eq 64, 3) := by decide +kernel
theorem dL_isPlayed_217 : decode cL_isPlayed 217 = .ok (.iload 7, 2) := by decide +kernel
theorem dL_isPlayed_219 : decode cL_isPlayed 219 = .ok (.ifCond .lt 59, 3) := by decide +kernel
theorem dL_isPlayed_222 : decode cL_isPlayed 222 = .ok (.iload 7, 2) := by decide +kernel
theorem dL_isPlayed_224 : decode cL_isPlayed 224 = .ok (.iload_n 2, 1) := by decide +kernel
theorem dL_isPlayed_225 : decode cL_isPlayed 225 = .ok (.if_icmp .gt 53, 3) := by decide +kernel
theorem dL_isPlayed_228 : decode cL_isPlayed 228 = .ok (.iload 6, 2) := by decide +kernel
theorem dL_isPlayed_230 : decode cL_isPlayed 230 = .ok (.ifCond .eq 9, 3) := by decide +kernel
theorem dL_isPlayed_233 : decode cL_isPlayed 233 = .ok (.iload 7, 2) := by decide +kernel
theorem dL_isPlayed_235 : decode cL_isPlayed 235 = .ok (.iload_n 2, 1) := by decide +kernel
theorem dL_isPlayed_236 : decode cL_isPlayed 236 = .ok (.if_icmp .ne 42, 3) := by decide +kernel
theorem dL_isPlayed_239 : decode cL_isPlayed 239 = .ok (.aload_n 0, 1) := by decide +kernel
theorem dL_isPlayed_240 : decode cL_isPlayed 240 = .ok (.iload 5, 2) := by decide +kernel
theorem dL_isPlayed_242 : decode cL_isPlayed 242 = .ok (.invokestatic 208, 3) := by decide +kernel
theorem dL_isPlayed_245 : decode cL_isPlayed 245 = .ok (.ldc 21, 2) := by decide +kernel
theorem dL_isPlayed_247 : decode cL_isPlayed 247 = .ok (.if_icmp .ne 7, 3) := by decide +kernel
theorem dL_isPlayed_250 : decode cL_isPlayed 250 = .ok (.iconst 1, 1) := by decide +kernel
theorem dL_isPlayed_251 : decode cL_isPlayed 251 = .ok (.goto 4, 3) := by decide +kernel
theorem dL_isPlayed_254 : decode cL_isPlayed 254 = .ok (.iconst 0, 1) := by decide +kernel
theorem dL_isPlayed_255 : decode cL_isPlayed 255 = .ok (.aload_n 1, 1) := by decide +kernel
theorem dL_isPlayed_256 : decode cL_isPlayed 256 = .ok (.iconst 0, 1) := by decide +kernel
theorem dL_isPlayed_257 : decode cL_isPlayed 257 = .ok (.iaload, 1) := by decide +kernel
theorem dL_isPlayed_258 : decode cL_isPlayed 258 = .ok (.ifCond .eq 8, 3) := by decide +kernel
theorem dL_isPlayed_261 : decode cL_isPlayed 261 = .ok (.iload 6, 2) := by decide +kernel
theorem dL_isPlayed_263 : decode cL_isPlayed 263 = .ok (.ifCond .ne 7, 3) := by decide +kernel
theorem dL_isPlayed_266 : decode cL_isPlayed 266 = .ok (.iconst 1, 1) := by decide +kernel
theorem dL_isPlayed_267 : decode cL_isPlayed 267 = .ok (.goto 4, 3) := by decide +kernel
theorem dL_isPlayed_270 : decode cL_isPlayed 270 = .ok (.iconst 0, 1) := by decide +kernel
theorem dL_isPlayed_271 : decode cL_isPlayed 271 = .ok (.if_icmp .ne 7, 3) := by decide +kernel
theorem dL_isPlayed_274 : decode cL_isPlayed 274 = .ok (.iconst 1, 1) := by decide +kernel
theorem dL_isPlayed_275 : decode cL_isPlayed 275 = .ok (.goto 4, 3) := by decide +kernel
theorem dL_isPlayed_278 : decode cL_isPlayed 278 = .ok (.iconst 0, 1) := by decide +kernel
theorem dL_isPlayed_279 : decode cL_isPlayed 279 = .ok (.istore 4, 2) := by decide +kernel
theorem dL_isPlayed_281 : decode cL_isPlayed 281 = .ok (.iinc 5 1, 3) := by decide +kernel
theorem dL_isPlayed_284 : decode cL_isPlayed 284 = .ok (.goto (-130), 3) := by decide +kernel
theorem dL_isPlayed_287 : decode cL_isPlayed 287 = .ok (.iload 4, 2) := by decide +kernel
theorem dL_isPlayed_289 : decode cL_isPlayed 289 = .ok (.ifCond .eq 51, 3) := by decide +kernel
theorem dL_isPlayed_292 : decode cL_isPlayed 292 = .ok (.aload_n 0, 1) := by decide +kernel
theorem dL_isPlayed_293 : decode cL_isPlayed 293 = .ok (.iconst 4, 1) := by decide +kernel
theorem dL_isPlayed_294 : decode cL_isPlayed 294 = .ok (.invokestatic 206, 3) := by decide +kernel
theorem dL_isPlayed_297 : decode cL_isPlayed 297 = .ok (.ldc 18, 2) := by decide +kernel
theorem dL_isPlayed_299 : decode cL_isPlayed 299 = .ok (.if_icmp .ne 41, 3) := by decide +kernel
theorem dL_isPlayed_302 : decode cL_isPlayed 302 = .ok (.aload_n 0, 1) := by decide +kernel
theorem dL_isPlayed_303 : decode cL_isPlayed 303 = .ok (.aload_n 1, 1) := by decide +kernel
theorem dL_isPlayed_304 : decode cL_isPlayed 304 = .ok (.iconst 0, 1) := by decide +kernel
theorem dL_isPlayed_305 : decode cL_isPlayed 305 = .ok (.iaload, 1) := by decide +kernel
theorem dL_isPlayed_306 : decode cL_isPlayed 306 = .ok (.invokestatic 191, 3) := by decide +kernel
theorem dL_isPlayed_309 : decode cL_isPlayed 309 = .ok (.ldc 28, 2) := by decide +kernel
theorem dL_isPlayed_311 : decode cL_isPlayed 311 = .ok (.if_icmp .ne 29, 3) := by decide +kernel
theorem dL_isPlayed_314 : decode cL_isPlayed 314 = .ok (.aload_n 0, 1) := by decide +kernel
theorem dL_isPlayed_315 : decode cL_isPlayed 315 = .ok (.iconst (-1), 1) := by decide +kernel
theorem dL_isPlayed_316 : decode cL_isPlayed 316 = .ok (.invokestatic 193, 3) := by decide +kernel
theorem dL_isPlayed_319 : decode cL_isPlayed 319 = .ok (.ldc 28, 2) := by decide +kernel
theorem dL_isPlayed_321 : decode cL_isPlayed 321 = .ok (.if_icmp .ne 19, 3) := by decide +kernel
theorem dL_isPlayed_324 : decode cL_isPlayed 324 = .ok (.aload_n 0, 1) := by decide +kernel
theorem dL_isPlayed_325 : decode cL_isPlayed 325 = .ok (.aload_n 1, 1) := by decide +kernel
theorem dL_isPlayed_326 : decode cL_isPlayed 326 = .ok (.iconst 0, 1) := by decide +kernel
theorem dL_isPlayed_327 : decode cL_isPlayed 327 = .ok (.iaload, 1) := by decide +kernel
theorem dL_isPlayed_328 : decode cL_isPlayed 328 = .ok (.invokestatic 195, 3) := by decide +kernel
theorem dL_isPlayed_331 : decode cL_isPlayed 331 = .ok (.ldc 28, 2) := by decide +kernel
theorem dL_isPlayed_333 : decode cL_isPlayed 333 = .ok (.if_icmp .ne 7, 3) := by decide +kernel
theorem dL_isPlayed_336 : decode cL_isPlayed 336 = .ok (.iconst 1, 1) := by decide +kernel
theorem dL_isPlayed_337 : decode cL_isPlayed 337 = .ok (.goto 4, 3) := by decide +kernel
theorem dL_isPlayed_340 : decode cL_isPlayed 340 = .ok (.iconst 0, 1) := by decide +kernel
theorem dL_isPlayed_341 : decode cL_isPlayed 341 = .ok (.ireturn, 1) := by decide +kernel
theorem dL_areSounds_0 : decode cL_areSounds 0 = .ok (.aload_n 0, 1) := by decide +kernel
theorem dL_areSounds_1 : decode cL_areSounds 1 = .ok (.invokevirtual 210, 3) := by decide +kernel
theorem dL_areSounds_4 : decode cL_areSounds 4 = .ok (.istore_n 2, 1) := by decide +kernel
theorem dL_areSounds_5 : decode cL_areSounds 5 = .ok (.iconst 4, 1) := by decide +kernel
theorem dL_areSounds_6 : decode cL_areSounds 6 = .ok (.newarray .int, 2) := by decide +kernel
theorem dL_areSounds_8 : decode cL_areSounds 8 = .ok (.astore_n 3, 1) := by decide +kernel
theorem dL_areSounds_9 : decode cL_areSounds 9 = .ok (.iconst 0, 1) := by decide +kernel
theorem dL_areSounds_10 : decode cL_areSounds 10 = .ok (.istore 4, 2) := by decide +kernel
theorem dL_areSounds_12 : decode cL_areSounds 12 = .ok (.iconst (-1), 1) := by decide +kernel
theorem dL_areSounds_13 : decode cL_areSounds 13 = .ok (.istore 5, 2) := by decide +kernel
theorem dL_areSounds_15 : decode cL_areSounds 15 = .ok (.iload_n 2, 1) := by decide +kernel
theorem dL_areSounds_16 : decode cL_areSounds 16 = .ok (.ifCond .ne 7, 3) := by decide +kernel
theorem dL_areSounds_19 : decode cL_areSounds 19 = .ok (.iconst 0, 1) := by decide +kernel
theorem dL_areSounds_20 : decode cL_areSounds 20 = .ok (.goto 8, 3) := by decide +kernel
theorem dL_areSounds_23 : decode cL_areSounds 23 = .ok (.iload_n 1, 1) := by decide +kernel
theorem dL_areSounds_24 : decode cL_areSounds 24 = .ok (.iload_n 2, 1) := by decide +kernel
theorem dL_areSounds_25 : decode cL_areSounds 25 = .ok (.invokestatic 213, 3) := by decide +kernel
theorem dL_areSounds_28 : decode cL_areSounds 28 = .ok (.istore 6, 2) := by decide +kernel
theorem dL_areSounds_30 : decode cL_areSounds 30 = .ok (.iload 6, 2) := by decide +kernel
theorem dL_areSounds_32 : decode cL_areSounds 32 = .ok (.istore 7, 2) := by decide +kernel
theorem dL_areSounds_34 : decode cL_areSounds 34 = .ok (.iload 7, 2) := by decide +kernel
theorem dL_areSounds_36 : decode cL_areSounds 36 = .ok (.iload_n 2, 1) := by decide +kernel
theorem dL_areSounds_37 : decode cL_areSounds 37 = .ok (.if_icmp .ge 172, 3) := by decide +kernel
theorem dL_areSounds_40 : decode cL_areSounds 40 = .ok (.iload 7, 2) := by decide +kernel
theorem dL_areSounds_42 : decode cL_areSounds 42 = .ok (.iload 6, 2) := by decide +kernel
theorem dL_areSounds_44 : decode cL_areSounds 44 = .ok (.bipush 9, 2) := by decide +kernel
theorem dL_areSounds_46 : decode cL_areSounds 46 = .ok (.iadd, 1) := by decide +kernel
theorem dL_areSounds_47 : decode cL_areSounds 47 = .ok (.if_icmp .ge 162, 3) := by decide +kernel
theorem dL_areSounds_50 : decode cL_areSounds 50 = .ok (.aload_n 0, 1) := by decide +kernel
theorem dL_areSounds_51 : decode cL_areSounds 51 = .ok (.iload 7, 2) := by decide +kernel
theorem dL_areSounds_53 : decode cL_areSounds 53 = .ok (.invokestatic 216, 3) := by decide +kernel
theorem dL_areSounds_56 : decode cL_areSounds 56 = .ok (.istore 8, 2) := by decide +kernel
theorem dL_areSounds_58 : decode cL_areSounds 58 = .ok (.aload_n 0, 1) := by decide +kernel
theorem dL_areSounds_59 : decode cL_areSounds 59 = .ok (.iload 7, 2) := by decide +kernel
theorem dL_areSounds_61 : decode cL_areSounds 61 = .ok (.invokestatic 218, 3) := by decide +kernel
theorem dL_areSounds_64 : decode cL_areSounds 64 = .ok (.istore 9, 2) := by decide +kernel
theorem dL_areSounds_66 : decode cL_areSounds 66 = .ok (.aload_n 0, 1) := by decide +kernel
theorem dL_areSounds_67 : decode cL_areSounds 67 = .ok (.iload 7, 2) := by decide +kernel
theorem dL_areSounds_69 : decode cL_areSounds 69 = .ok (.invokestatic 220, 3) := by decide +kernel
theorem dL_areSounds_72 : decode cL_areSounds 72 = .ok (.istore 10, 2) := by decide +kernel
theorem dL_areSounds_74 : decode cL_areSounds 74 = .ok (.iload 9, 2) := by decide +kernel
theorem dL_areSounds_76 : decode cL_areSounds 76 = .ok (.iload 4, 2) := by decide +kernel
theorem dL_areSounds_78 : decode cL_areSounds 78 = .ok (.if_icmp .gt 17, 3) := by decide +kernel
theorem dL_areSounds_81 : decode cL_areSounds 81 = .ok (.iload 9, 2) := by decide +kernel
theorem dL_areSounds_83 : decode cL_areSounds 83 = .ok (.iload 4, 2) := by decide +kernel
theorem dL_areSounds_85 : decode cL_areSounds 85 = .ok (.if_icmp .ne 14, 3) := by decide +kernel
theorem dL_areSounds_88 : decode cL_areSounds 88 = .ok (.iload 8, 2) := by decide +kernel
theorem dL_areSounds_90 : decode cL_areSounds 90 = .ok (.iload 5, 2) := by decide +kernel
theorem dL_areSounds_92 : decode cL_areSounds 92 = .ok (.if_icmp .le 7, 3) := by decide +kernel
theorem dL_areSounds_95 : decode cL_areSounds 95 = .ok (.iconst 1, 1) := by decide +kernel
theorem dL_areSounds_96 : decode cL_areSounds 96 = .ok (.goto 4, 3) := by decide +kernel
theorem dL_areSounds_99 : decode cL_areSounds 99 = .ok (.iconst 0, 1) := by decide +kernel
theorem dL_areSounds_100 : decode cL_areSounds 100 = .ok (.istore 11, 2) := by decide +kernel
theorem dL_areSounds_102 : decode cL_areSounds 102 = .ok (.iload 8, 2) := by decide +kernel
theorem dL_areSounds_104 : decode cL_areSounds 104 = .ok (.ifCond .lt 80, 3) := by decide +kernel
theorem dL_areSounds_107 : decode cL_areSounds 107 = .ok (.iload 8, 2) := by decide +kernel
theorem dL_areSounds_109 : decode cL_areSounds 109 = .ok (.iconst 3, 1) := by decide +kernel
theorem dL_areSounds_110 : decode cL_areSounds 110 = .ok (.if_icmp .gt 74, 3) := by decide +kernel
theorem dL_areSounds_113 : decode cL_areSounds 113 = .ok (.iload 11, 2) := by decide +kernel
theorem dL_areSounds_115 : decode cL_areSounds 115 = .ok (.ifCond .eq 69, 3) := by decide +kernel
theorem dL_areSounds_118 : decode cL_areSounds 118 = .ok (.iload 10, 2) := by decide +kernel
theorem dL_areSounds_120 : decode cL_areSounds 120 = .ok (.ifCond .le 64, 3) := by decide +kernel
theorem dL_areSounds_123 : decode cL_areSounds 123 = .ok (.iload 9, 2) := by decide +kernel
theorem dL_areSounds_125 : decode cL_areSounds 125 = .ok (.aload_n 3, 1) := by decide +kernel
theorem dL_areSounds_126 : decode cL_areSounds 126 = .ok (.iload 8, 2) := by decide +kernel
theorem dL_areSounds_128 : decode cL_areSounds 128 = .ok (.iaload, 1) := by decide +kernel
theorem dL_areSounds_129 : decode cL_areSounds 129 = .ok (.if_icmp .lt 55, 3) := by decide +kernel
theorem dL_areSounds_132 : decode cL_areSounds 132 = .ok (.aload_n 0, 1) := by decide +kernel
theorem dL_areSounds_133 : decode cL_areSounds 133 = .ok (.iload 7, 2) := by decide +kernel
theorem dL_areSounds_135 : decode cL_areSounds 135 = .ok (.invokestatic 222, 3) := by decide +kernel
theorem dL_areSounds_138 : decode cL_areSounds 138 = .ok (.iconst 1, 1) := by decide +kernel
theorem dL_areSounds_139 : decode cL_areSounds 139 = .ok (.if_icmp .lt 45, 3) := by decide +kernel
theorem dL_areSounds_142 : decode cL_areSounds 142 = .ok (.aload_n 0, 1) := by decide +kernel
theorem dL_areSounds_143 : decode cL_areSounds 143 = .ok (.iload 7, 2) := by decide +kernel
theorem dL_areSounds_145 : decode cL_areSounds 145 = .ok (.invokestatic 222, 3) := by decide +kernel
theorem dL_areSounds_148 : decode cL_areSounds 148 = .ok (.bipush 127, 2) := by decide +kernel
theorem dL_areSounds_150 : decode cL_areSounds 150 = .ok (.if_icmp .gt 34, 3) := by decide +kernel
theorem dL_areSounds_153 : decode cL_areSounds 153 = .ok (.aload_n 0, 1) := by decide +kernel
theorem dL_areSounds_154 : decode cL_areSounds 154 = .ok (.iload 7, 2) := by decide +kernel
theorem dL_areSounds_156 : decode cL_areSounds 156 = .ok (.invokestatic 224, 3) := by decide +kernel
theorem dL_areSounds_159 : decode cL_areSounds 159 = .ok (.ifCond .lt 25, 3) := by decide +kernel
theorem dL_areSounds_162 : decode cL_areSounds 162 = .ok (.aload_n 0, 1) := by decide +kernel
theorem dL_areSounds_163 : decode cL_areSounds 163 = .ok (.iload 7, 2) := by decide +kernel
theorem dL_areSounds_165 : decode cL_areSounds 165 = .ok (.invokestatic 224, 3) := by decide +kernel
theorem dL_areSounds_168 : decode cL_areSounds 168 = .ok (.iconst 5, 1) := by decide +kernel
theorem dL_areSounds_169 : decode cL_areSounds 169 = .ok (.if_icmp .gt 15, 3) := by decide +kernel
theorem dL_areSounds_172 : decode cL_areSounds 172 = .ok (.iload 9, 2) := by decide +kernel
theorem dL_areSounds_174 : decode cL_areSounds 174 = .ok (.iload 10, 2) := by decide +kernel
theorem dL_areSounds_176 : decode cL_areSounds 176 = .ok (.iadd, 1) := by decide +kernel
theorem dL_areSounds_177 : decode cL_areSounds 177 = .ok (.aload_n 0, 1) := by decide +kernel
theorem dL_areSounds_178 : decode cL_areSounds 178 = .ok (.invokevirtual 197, 3) := by decide +kernel
theorem dL_areSounds_181 : decode cL_areSounds 181 = .ok (.if_icmp .le 5, 3) := by decide +kernel
theorem dL_areSounds_184 : decode cL_areSounds 184 = .ok (.iconst 0, 1) := by decide +kernel
theorem dL_areSounds_185 : decode cL_areSounds 185 = .ok (.ireturn, 1) := by decide +kernel
theorem dL_areSounds_186 : decode cL_areSounds 186 = .ok (.aload_n 3, 1) := by decide +kernel
theorem dL_areSounds_187 : decode cL_areSounds 187 = .ok (.iload 8, 2) := by decide +kernel
theorem dL_areSounds_189 : decode cL_areSounds 189 = .ok (.iload 9, 2) := by decide +kernel
theorem dL_areSounds_191 : decode cL_areSounds 191 = .ok (.iload 10, 2) := by decide +kernel
theorem dL_areSounds_193 : decode cL_areSounds 193 = .ok (.iadd, 1) := by decide +kernel
theorem dL_areSounds_194 : decode cL_areSounds 194 = .ok (.iastore, 1) := by decide +kernel
theorem dL_areSounds_195 : decode cL_areSounds 195 = .ok (.iload 9, 2) := by decide +kernel
theorem dL_areSounds_197 : decode cL_areSounds 197 = .ok (.istore 4, 2) := by decide +kernel
theorem dL_areSounds_199 : decode cL_areSounds 199 = .ok (.iload 8, 2) := by decide +kernel
theorem dL_areSounds_201 : decode cL_areSounds 201 = .ok (.istore 5, 2) := by decide +kernel
theorem dL_areSounds_203 : decode cL_areSounds 203 = .ok (.iinc 7 1, 3) := by decide +kernel
theorem dL_areSounds_206 : decode cL_areSounds 206 = .ok (.goto (-172), 3) := by decide +kernel
theorem dL_areSounds_209 : decode cL_areSounds 209 = .ok (.aload_n 0, 1) := by decide +kernel
theorem dL_areSounds_210 : decode cL_areSounds 210 = .ok (.iload_n 2, 1) := by decide +kernel
theorem dL_areSounds_211 : decode cL_areSounds 211 = .ok (.invokestatic 216, 3) := by decide +kernel
theorem dL_areSounds_214 : decode cL_areSounds 214 = .ok (.ldc 28, 2) := by decide +kernel
theorem dL_areSounds_216 : decode cL_areSounds 216 = .ok (.if_icmp .ne 47, 3) := by decide +kernel
theorem dL_areSounds_219 : decode cL_areSounds 219 = .ok (.aload_n 0, 1) := by decide +kernel
theorem dL_areSounds_220 : decode cL_areSounds 220 = .ok (.iconst (-1), 1) := by decide +kernel
theorem dL_areSounds_221 : decode cL_areSounds 221 = .ok (.invokestatic 218, 3) := by decide +kernel
theorem dL_areSounds_224 : decode cL_areSounds 224 = .ok (.ldc 28, 2) := by decide +kernel
theorem dL_areSounds_226 : decode cL_areSounds 226 = .ok (.if_icmp .ne 37, 3) := by decide +kernel
theorem dL_areSounds_229 : decode cL_areSounds 229 = .ok (.aload_n 0, 1) := by decide +kernel
theorem dL_areSounds_230 : decode cL_areSounds 230 = .ok (.iload_n 2, 1) := by decide +kernel
theorem dL_areSounds_231 : decode cL_areSounds 231 = .ok (.invokestatic 220, 3) := by decide +kernel
theorem dL_areSounds_234 : decode cL_areSounds 234 = .ok (.ldc 28, 2) := by decide +kernel
theorem dL_areSounds_236 : decode cL_areSounds 236 = .ok (.if_icmp .ne 27, 3) := by decide +kernel
theorem dL_areSounds_239 : decode cL_areSounds 239 = .ok (.aload_n 0, 1) := by decide +kernel
theorem dL_areSounds_240 : decode cL_areSounds 240 = .ok (.iload_n 2, 1) := by decide +kernel
theorem dL_areSounds_241 : decode cL_areSounds 241 = .ok (.invokestatic 222, 3) := by decide +kernel
theorem dL_areSounds_244 : decode cL_areSounds 244 = .ok (.ldc 28, 2) := by decide +kernel
theorem dL_areSounds_246 : decode cL_areSounds 246 = .ok (.if_icmp .ne 17, 3) := by decide +kernel
theorem dL_areSounds_249 : decode cL_areSounds 249 = .ok (.aload_n 0, 1) := by decide +kernel
theorem dL_areSounds_250 : decode cL_areSounds 250 = .ok (.iload_n 2, 1) := by decide +kernel
theorem dL_areSounds_251 : decode cL_areSounds 251 = .ok (.invokestatic 224, 3) := by decide +kernel
theorem dL_areSounds_254 : decode cL_areSounds 254 = .ok (.ldc 28, 2) := by decide +kernel
theorem dL_areSounds_256 : decode cL_areSounds 256 = .ok (.if_icmp .ne 7, 3) := by decide +kernel
theorem dL_areSounds_259 : decode cL_areSounds 259 = .ok (.iconst 1, 1) := by decide +kernel
theorem dL_areSounds_260 : decode cL_areSounds 260 = .ok (.goto 4, 3) := by decide +kernel
theorem dL_areSounds_263 : decode cL_areSounds 263 = .ok (.iconst 0, 1) := by decide +kernel
theorem dL_areSounds_264 : decode cL_areSounds 264 = .ok (.ireturn, 1) := by decide +kernel
theorem dL_areItems_0 : decode cL_areItems 0 = .ok (.iconst 0, 1) := by decide +kernel
theorem dL_areItems_1 : decode cL_areItems 1 = .ok (.istore_n 3, 1) := by decide +kernel
theorem dL_areItems_2 : decode cL_areItems 2 = .ok (.aload_n 0, 1) := by decide +kernel
theorem dL_areItems_3 : decode cL_areItems 3 = .ok (.iload_n 2, 1) := by decide +kernel
theorem dL_areItems_4 : decode cL_areItems 4 = .ok (.invokestatic 208, 3) := by decide +kernel
theorem dL_areItems_7 : decode cL_areItems 7 = .ok (.istore 4, 2) := by decide +kernel
theorem dL_areItems_9 : decode cL_areItems 9 = .ok (.iconst 0, 1) := by decide +kernel
theorem dL_areItems_10 : decode cL_areItems 10 = .ok (.istore 5, 2) := by decide +kernel
theorem dL_areItems_12 : decode cL_areItems 12 = .ok (.iload 5, 2) := by decide +kernel
theorem dL_areItems_14 : decode cL_areItems 14 = .ok (.iload 4, 2) := by decide +kernel
theorem dL_areItems_16 : decode cL_areItems 16 = .ok (.if_icmp .ge 300, 3) := by decide +kernel
theorem dL_areItems_19 : decode cL_areItems 19 = .ok (.aload_n 0, 1) := by decide +kernel
theorem dL_areItems_20 : decode cL_areItems 20 = .ok (.iload_n 2, 1) := by decide +kernel
theorem dL_areItems_21 : decode cL_areItems 21 = .ok (.iload 5, 2) := by decide +kernel
theorem dL_areItems_23 : decode cL_areItems 23 = .ok (.invokestatic 226, 3) := by decide +kernel
theorem dL_areItems_26 : decode cL_areItems 26 = .ok (.istore 6, 2) := by decide +kernel
theorem dL_areItems_28 : decode cL_areItems 28 = .ok (.aload_n 0, 1) := by decide +kernel
theorem dL_areItems_29 : decode cL_areItems 29 = .ok (.iload_n 2, 1) := by decide +kernel
theorem dL_areItems_30 : decode cL_areItems 30 = .ok (.iload 5, 2) := by decide +kernel
theorem dL_areItems_32 : decode cL_areItems 32 = .ok (.invokestatic 228, 3) := by decide +kernel
theorem dL_areItems_35 : decode cL_areItems 35 = .ok (.istore 7, 2) := by decide +kernel
theorem dL_areItems_37 : decode cL_areItems 37 = .ok (.aload_n 0, 1) := by decide +kernel
theorem dL_areItems_38 : decode cL_areItems 38 = .ok (.iload_n 2, 1) := by decide +kernel
theorem dL_areItems_39 : decode cL_areItems 39 = .ok (.iload 5, 2) := by decide +kernel
theorem dL_areItems_41 : decode cL_areItems 41 = .ok (.invokestatic 230, 3) := by decide +kernel
theorem dL_areItems_44 : decode cL_areItems 44 = .ok (.istore 8, 2) := by decide +kernel
theorem dL_areItems_46 : decode cL_areItems 46 = .ok (.aload_n 0, 1) := by decide +kernel
theorem dL_areItems_47 : decode cL_areItems 47 = .ok (.iload_n 2, 1) := by decide +kernel
theorem dL_areItems_48 : decode cL_areItems 48 = .ok (.iload 5, 2) := by decide +kernel
theorem dL_areItems_50 : decode cL_areItems 50 = .ok (.invokestatic 232, 3) := by decide +kernel
theorem dL_areItems_53 : decode cL_areItems 53 = .ok (.iload_n 3, 1) := by decide +kernel
theorem dL_areItems_54 : decode cL_areItems 54 = .ok (.if_icmp .ne 58, 3) := by decide +kernel
theorem dL_areItems_57 : decode cL_areItems 57 = .ok (.iload 7, 2) := by decide +kernel
theorem dL_areItems_59 : decode cL_areItems 59 = .ok (.iconst 1, 1) := by decide +kernel
theorem dL_areItems_60 : decode cL_areItems 60 = .ok (.if_icmp .lt 52, 3) := by decide +kernel
theorem dL_areItems_63 : decode cL_areItems 63 = .ok (.iload_n 3, 1) := by decide +kernel
theorem dL_areItems_64 : decode cL_areItems 64 = .ok (.iload 7, 2) := by decide +kernel
theorem dL_areItems_66 : decode cL_areItems 66 = .ok (.iadd, 1) := by decide +kernel
theorem dL_areItems_67 : decode cL_areItems 67 = .ok (.aload_n 1, 1) := by decide +kernel
theorem dL_areItems_68 : decode cL_areItems 68 = .ok (.iconst 0, 1) := by decide +kernel
theorem dL_areItems_69 : decode cL_areItems 69 = .ok (.iaload, 1) := by decide +kernel
theorem dL_areItems_70 : decode cL_areItems 70 = .ok (.if_icmp .gt 42, 3) := by decide +kernel
theorem dL_areItems_73 : decode cL_areItems 73 = .ok (.aload_n 0, 1) := by decide +kernel
theorem dL_areItems_74 : decode cL_areItems 74 = .ok (.iload_n 2, 1) := by decide +kernel
theorem dL_areItems_75 : decode cL_areItems 75 = .ok (.iload 5, 2) := by decide +kernel
theorem dL_areItems_77 : decode cL_areItems 77 = .ok (.invokestatic 234, 3) := by decide +kernel
theorem dL_areItems_80 : decode cL_areItems 80 = .ok (.bipush 13, 2) := by decide +kernel
theorem dL_areItems_82 : decode cL_areItems 82 = .ok (.iload 6, 2) := by decide +kernel
theorem dL_areItems_84 : decode cL_areItems 84 = .ok (.iconst 1, 1) := by decide +kernel
theorem dL_areItems_85 : decode cL_areItems 85 = .ok (.if_icmp .ne 7, 3) := by decide +kernel
theorem dL_areItems_88 : decode cL_areItems 88 = .ok (.iconst 0, 1) := by decide +kernel
theorem dL_areItems_89 : decode cL_areItems 89 = .ok (.goto 4, 3) := by decide +kernel
theorem dL_areItems_92 : decode cL_areItems 92 = .ok (.iconst 3, 1) := by decide +kernel
theorem dL_areItems_93 : decode cL_areItems 93 = .ok (.isub, 1) := by decide +kernel
theorem dL_areItems_94 : decode cL_areItems 94 = .ok (.if_icmp .lt 18, 3) := by decide +kernel
theorem dL_areItems_97 : decode cL_areItems 97 = .ok (.iload 6, 2) := by decide +kernel
theorem dL_areItems_99 : decode cL_areItems 99 = .ok (.ifCond .lt 13, 3) := by decide +kernel
theorem dL_areItems_102 : decode cL_areItems 102 = .ok (.iload 6, 2) := by decide +kernel
theorem dL_areItems_104 : decode cL_areItems 104 = .ok (.iconst 3, 1) := by decide +kernel
theorem dL_areItems_105 : decode cL_areItems 105 = .ok (.if_icmp .ge 7, 3) := by decide +kernel
theorem dL_areItems_108 : decode cL_areItems 108 = .ok (.iconst 1, 1) := by decide +kernel
theorem dL_areItems_109 : decode cL_areItems 109 = .ok (.goto 4, 3) := by decide +kernel
theorem dL_areItems_112 : decode cL_areItems 112 = .ok (.iconst 0, 1) := by decide +kernel
theorem dL_areItems_113 : decode cL_areItems 113 = .ok (.istore 9, 2) := by decide +kernel
theorem dL_areItems_115 : decode cL_areItems 115 = .ok (.iconst 0, 1) := by decide +kernel
theorem dL_areItems_116 : decode cL_areItems 116 = .ok (.istore 10, 2) := by decide +kernel
theorem dL_areItems_118 : decode cL_areItems 118 = .ok (.iload 10, 2) := by decide +kernel
theorem dL_areItems_120 : decode cL_areItems 120 = .ok (.iload 7, 2) := by decide +kernel
theorem dL_areItems_122 : decode cL_areItems 122 = .ok (.if_icmp .ge 58, 3) := by decide +kernel
theorem dL_areItems_125 : decode cL_areItems 125 = .ok (.iload 9, 2) := by decide +kernel
theorem dL_areItems_127 : decode cL_areItems 127 = .ok (.ifCond .eq 53, 3) := by decide +kernel
theorem dL_areItems_130 : decode cL_areItems 130 = .ok (.iload 6, 2) := by decide +kernel
theorem dL_areItems_132 : decode cL_areItems 132 = .ok (.ifCond .ne 23, 3) := by decide +kernel
theorem dL_areItems_135 : decode cL_areItems 135 = .ok (.aload_n 0, 1) := by decide +kernel
theorem dL_areItems_136 : decode cL_areItems 136 = .ok (.iload_n 2, 1) := by decide +kernel
theorem dL_areItems_137 : decode cL_areItems 137 = .ok (.iload_n 3, 1) := by decide +kernel
theorem dL_areItems_138 : decode cL_areItems 138 = .ok (.iload 10, 2) := by decide +kernel
theorem dL_areItems_140 : decode cL_areItems 140 = .ok (.iadd, 1) := by decide +kernel
theorem dL_areItems_141 : decode cL_areItems 141 = .ok (.invokestatic 236, 3) := by decide +kernel
theorem dL_areItems_144 : decode cL_areItems 144 = .ok (.ifCond .le 7, 3) := by decide +kernel
theorem dL_areItems_147 : decode cL_areItems 147 = .ok (.iconst 1, 1) := by decide +kernel
theorem dL_areItems_148 : decode cL_areItems 148 = .ok (.goto 24, 3) := by decide +kernel
theorem dL_areItems_151 : decode cL_areItems 151 = .ok (.iconst 0, 1) := by decide +kernel
theorem dL_areItems_152 : decode cL_areItems 152 = .ok (.goto 20, 3) := by decide +kernel
theorem dL_areItems_155 : decode cL_areItems 155 = .ok (.aload_n 0, 1) := by decide +kernel
theorem dL_areItems_156 : decode cL_areItems 156 = .ok (.iload_n 2, 1) := by decide +kernel
theorem dL_areItems_157 : decode cL_areItems 157 = .ok (.iload_n 3, 1) := by decide +kernel
theorem dL_areItems_158 : decode cL_areItems 158 = .ok (.iload 10, 2) := by decide +kernel
theorem dL_areItems_160 : decode cL_areItems 160 = .ok (.iadd, 1) := by decide +kernel
theorem dL_areItems_161 : decode cL_areItems 161 = .ok (.invokestatic 236, 3) := by decide +kernel
theorem dL_areItems_164 : decode cL_areItems 164 = .ok (.ifCond .ne 7, 3) := by decide +kernel
theorem dL_areItems_167 : decode cL_areItems 167 = .ok (.iconst 1, 1) := by decide +kernel
theorem dL_areItems_168 : decode cL_areItems 168 = .ok (.goto 4, 3) := by decide +kernel
theorem dL_areItems_171 : decode cL_areItems 171 = .ok (.iconst 0, 1) := by decide +kernel
theorem dL_areItems_172 : decode cL_areItems 172 = .ok (.istore 9, 2) := by decide +kernel
theorem dL_areItems_174 : decode cL_areItems 174 = .ok (.iinc 10 1, 3) := by decide +kernel
theorem dL_areItems_177 : decode cL_areItems 177 = .ok (.goto (-59), 3) := by decide +kernel
theorem dL_areItems_180 : decode cL_areItems 180 = .ok (.iload 9, 2) := by decide +kernel
theorem dL_areItems_182 : decode cL_areItems 182 = .ok (.ifCond .eq 113, 3) := by decide +kernel
theorem dL_areItems_185 : decode cL_areItems 185 = .ok (.iload 6, 2) := by decide +kernel
theorem dL_areItems_187 : decode cL_areItems 187 = .ok (.iconst 1, 1) := by decide +kernel
theorem dL_areItems_188 : decode cL_areItems 188 = .ok (.if_icmp .eq 9, 3) := by decide +kernel
theorem dL_areItems_191 : decode cL_areItems 191 = .ok (.iload 7, 2) := by decide +kernel
theorem dL_areItems_193 : decode cL_areItems 193 = .ok (.iconst 1, 1) := by decide +kernel
theorem dL_areItems_194 : decode cL_areItems 194 = .ok (.if_icmp .ne 101, 3) := by decide +kernel
theorem dL_areItems_197 : decode cL_areItems 197 = .ok (.iload 6, 2) := by decide +kernel
theorem dL_areItems_199 : decode cL_areItems 199 = .ok (.iconst 2, 1) := by decide +kernel
theorem dL_areItems_200 : decode cL_areItems 200 = .ok (.if_icmp .ne 85, 3) := by decide +kernel
theorem dL_areItems_203 : decode cL_areItems 203 = .ok (.iload 8, 2) := by decide +kernel
theorem dL_areItems_205 : decode cL_areItems 205 = .ok (.ifCond .lt 90, 3) := by decide +kernel
theorem dL_areItems_208 : decode cL_areItems 208 = .ok (.iload 8, 2) := by decide +kernel
theorem dL_areItems_210 : decode cL_areItems 210 = .ok (.iconst 4, 1) := by decide +kernel
theorem dL_areItems_211 : decode cL_areItems 211 = .ok (.if_icmp .ge 84, 3) := by decide +kernel
theorem dL_areItems_214 : decode cL_areItems 214 = .ok (.iload 8, 2) := by decide +kernel
theorem dL_areItems_216 : decode cL_areItems 216 = .ok (.iload_n 2, 1) := by decide +kernel
theorem dL_areItems_217 : decode cL_areItems 217 = .ok (.if_icmp .eq 78, 3) := by decide +kernel
theorem dL_areItems_220 : decode cL_areItems 220 = .ok (.aload_n 0, 1) := by decide +kernel
theorem dL_areItems_221 : decode cL_areItems 221 = .ok (.iload 8, 2) := by decide +kernel
theorem dL_areItems_223 : decode cL_areItems 223 = .ok (.iload_n 3, 1) := by decide +kernel
theorem dL_areItems_224 : decode cL_areItems 224 = .ok (.invokestatic 236, 3) := by decide +kernel
theorem dL_areItems_227 : decode cL_areItems 227 = .ok (.ifCond .le 68, 3) := by decide +kernel
theorem dL_areItems_230 : decode cL_areItems 230 = .ok (.iload 5, 2) := by decide +kernel
theorem dL_areItems_232 : decode cL_areItems 232 = .ok (.ifCond .le 63, 3) := by decide +kernel
theorem dL_areItems_235 : decode cL_areItems 235 = .ok (.aload_n 0, 1) := by decide +kernel
theorem dL_areItems_236 : decode cL_areItems 236 = .ok (.iload_n 2, 1) := by decide +kernel
theorem dL_areItems_237 : decode cL_areItems 237 = .ok (.iload 5, 2) := by decide +kernel
theorem dL_areItems_239 : decode cL_areItems 239 = .ok (.iconst 1, 1) := by decide +kernel
theorem dL_areItems_240 : decode cL_areItems 240 = .ok (.isub, 1) := by decide +kernel
theorem dL_areItems_241 : decode cL_areItems 241 = .ok (.invokestatic 226, 3) := by decide +kernel
theorem dL_areItems_244 : decode cL_areItems 244 = .ok (.iconst 1, 1) := by decide +kernel
theorem dL_areItems_245 : decode cL_areItems 245 = .ok (.if_icmp .ne 50, 3) := by decide +kernel
theorem dL_areItems_248 : decode cL_areItems 248 = .ok (.aload_n 0, 1) := by decide +kernel
theorem dL_areItems_249 : decode cL_areItems 249 = .ok (.iload_n 2, 1) := by decide +kernel
theorem dL_areItems_250 : decode cL_areItems 250 = .ok (.iload 5, 2) := by decide +kernel
theorem dL_areItems_252 : decode cL_areItems 252 = .ok (.iconst 1, 1) := by decide +kernel
theorem dL_areItems_253 : decode cL_areItems 253 = .ok (.isub, 1) := by decide +kernel
theorem dL_areItems_254 : decode cL_areItems 254 = .ok (.invokestatic 228, 3) := by decide +kernel
theorem dL_areItems_257 : decode cL_areItems 257 = .ok (.iconst 2, 1) := by decide +kernel
theorem dL_areItems_258 : decode cL_areItems 258 = .ok (.if_icmp .le 37, 3) := by decide +kernel
theorem dL_areItems_261 : decode cL_areItems 261 = .ok (.iload 5, 2) := by decide +kernel
theorem dL_areItems_263 : decode cL_areItems 263 = .ok (.iconst 1, 1) := by decide +kernel
theorem dL_areItems_264 : decode cL_areItems 264 = .ok (.iadd, 1) := by decide +kernel
theorem dL_areItems_265 : decode cL_areItems 265 = .ok (.iload 4, 2) := by decide +kernel
theorem dL_areItems_267 : decode cL_areItems 267 = .ok (.if_icmp .ge 28, 3) := by decide +kernel
theorem dL_areItems_270 : decode cL_areItems 270 = .ok (.aload_n 0, 1) := by decide +kernel
theorem dL_areItems_271 : decode cL_areItems 271 = .ok (.iload_n 2, 1) := by decide +kernel
theorem dL_areItems_272 : decode cL_areItems 272 = .ok (.iload 5, 2) := by decide +kernel
theorem dL_areItems_274 : decode cL_areItems 274 = .ok (.iconst 1, 1) := by decide +kernel
theorem dL_areItems_275 : decode cL_areItems 275 = .ok (.iadd, 1) := by decide +kernel
theorem dL_areItems_276 : decode cL_areItems 276 = .ok (.invokestatic 226, 3) := by decide +kernel
theorem dL_areItems_279 : decode cL_areItems 279 = .ok (.ifCond .ne 16, 3) := by decide +kernel
theorem dL_areItems_282 : decode cL_areItems 282 = .ok (.goto 9, 3) := by decide +kernel
theorem dL_areItems_285 : decode cL_areItems 285 = .ok (.iload 8, 2) := by decide +kernel
theorem dL_areItems_287 : decode cL_areItems 287 = .ok (.iconst (-1), 1) := by decide +kernel
theorem dL_areItems_288 : decode cL_areItems 288 = .ok (.if_icmp .ne 7, 3) := by decide +kernel
theorem dL_areItems_291 : decode cL_areItems 291 = .ok (.iconst 1, 1) := by decide +kernel
theorem dL_areItems_292 : decode cL_areItems 292 = .ok (.goto 4, 3) := by decide +kernel
theorem dL_areItems_295 : decode cL_areItems 295 = .ok (.iconst 0, 1) := by decide +kernel
theorem dL_areItems_296 : decode cL_areItems 296 = .ok (.istore 9, 2) := by decide +kernel
theorem dL_areItems_298 : decode cL_areItems 298 = .ok (.iload 9, 2) := by decide +kernel
theorem dL_areItems_300 : decode cL_areItems 300 = .ok (.ifCond .ne 5, 3) := by decide +kernel
theorem dL_areItems_303 : decode cL_areItems 303 = .ok (.iconst 0, 1) := by decide +kernel
theorem dL_areItems_304 : decode cL_areItems 304 = .ok (.ireturn, 1) := by decide +kernel
theorem dL_areItems_305 : decode cL_areItems 305 = .ok (.iload_n 3, 1) := by decide +kernel
theorem dL_areItems_306 : decode cL_areItems 306 = .ok (.iload 7, 2) := by decide +kernel
theorem dL_areItems_308 : decode cL_areItems 308 = .ok (.iadd, 1) := by decide +kernel
theorem dL_areItems_309 : decode cL_areItems 309 = .ok (.istore_n 3, 1) := by decide +kernel
theorem dL_areItems_310 : decode cL_areItems 310 = .ok (.iinc 5 1, 3) := by decide +kernel
theorem dL_areItems_313 : decode cL_areItems 313 = .ok (.goto (-301), 3) := by decide +kernel
theorem dL_areItems_316 : decode cL_areItems 316 = .ok (.iload_n 3, 1) := by decide +kernel
theorem dL_areItems_317 : decode cL_areItems 317 = .ok (.aload_n 1, 1) := by decide +kernel
theorem dL_areItems_318 : decode cL_areItems 318 = .ok (.iconst 0, 1) := by decide +kernel
theorem dL_areItems_319 : decode cL_areItems 319 = .ok (.iaload, 1) := by decide +kernel
theorem dL_areItems_320 : decode cL_areItems 320 = .ok (.if_icmp .ne 66, 3) := by decide +kernel
theorem dL_areItems_323 : decode cL_areItems 323 = .ok (.aload_n 0, 1) := by decide +kernel
theorem dL_areItems_324 : decode cL_areItems 324 = .ok (.iload_n 2, 1) := by decide +kernel
theorem dL_areItems_325 : decode cL_areItems 325 = .ok (.iload 4, 2) := by decide +kernel
theorem dL_areItems_327 : decode cL_areItems 327 = .ok (.invokestatic 226, 3) := by decide +kernel
theorem dL_areItems_330 : decode cL_areItems 330 = .ok (.ldc 28, 2) := by decide +kernel
theorem dL_areItems_332 : decode cL_areItems 332 = .ok (.if_icmp .ne 54, 3) := by decide +kernel
theorem dL_areItems_335 : decode cL_areItems 335 = .ok (.aload_n 0, 1) := by decide +kernel
theorem dL_areItems_336 : decode cL_areItems 336 = .ok (.iload_n 2, 1) := by decide +kernel
theorem dL_areItems_337 : decode cL_areItems 337 = .ok (.iconst (-1), 1) := by decide +kernel
theorem dL_areItems_338 : decode cL_areItems 338 = .ok (.invokestatic 232, 3) := by decide +kernel
theorem dL_areItems_341 : decode cL_areItems 341 = .ok (.ldc 28, 2) := by decide +kernel
theorem dL_areItems_343 : decode cL_areItems 343 = .ok (.if_icmp .ne 43, 3) := by decide +kernel
theorem dL_areItems_346 : decode cL_areItems 346 = .ok (.aload_n 0, 1) := by decide +kernel
theorem dL_areItems_347 : decode cL_areItems 347 = .ok (.iload_n 2, 1) := by decide +kernel
theorem dL_areItems_348 : decode cL_areItems 348 = .ok (.iload 4, 2) := by decide +kernel
theorem dL_areItems_350 : decode cL_areItems 350 = .ok (.invokestatic 228, 3) := by decide +kernel
theorem dL_areItems_353 : decode cL_areItems 353 = .ok (.ldc 28, 2) := by decide +kernel
theorem dL_areItems_355 : decode cL_areItems 355 = .ok (.if_icmp .ne 31, 3) := by decide +kernel
theorem dL_areItems_358 : decode cL_areItems 358 = .ok (.aload_n 0, 1) := by decide +kernel
theorem dL_areItems_359 : decode cL_areItems 359 = .ok (.iload_n 2, 1) := by decide +kernel
theorem dL_areItems_360 : decode cL_areItems 360 = .ok (.iload 4, 2) := by decide +kernel
theorem dL_areItems_362 : decode cL_areItems 362 = .ok (.invokestatic 230, 3) := by decide +kernel
theorem dL_areItems_365 : decode cL_areItems 365 = .ok (.ldc 28, 2) := by decide +kernel
theorem dL_areItems_367 : decode cL_areItems 367 = .ok (.if_icmp .ne 19, 3) := by decide +kernel
theorem dL_areItems_370 : decode cL_areItems 370 = .ok (.aload_n 0, 1) := by decide +kernel
theorem dL_areItems_371 : decode cL_areItems 371 = .ok (.iload_n 2, 1) := by decide +kernel
theorem dL_areItems_372 : decode cL_areItems 372 = .ok (.iload 4, 2) := by decide +kernel
theorem dL_areItems_374 : decode cL_areItems 374 = .ok (.invokestatic 234, 3) := by decide +kernel
theorem dL_areItems_377 : decode cL_areItems 377 = .ok (.ldc 28, 2) := by decide +kernel
theorem dL_areItems_379 : decode cL_areItems 379 = .ok (.if_icmp .ne 7, 3) := by decide +kernel
theorem dL_areItems_382 : decode cL_areItems 382 = .ok (.iconst 1, 1) := by decide +kernel
theorem dL_areItems_383 : decode cL_areItems 383 = .ok (.goto 4, 3) := by decide +kernel
theorem dL_areItems_386 : decode cL_areItems 386 = .ok (.iconst 0, 1) := by decide +kernel
theorem dL_areItems_387 : decode cL_areItems 387 = .ok (.ireturn, 1) := by decide +kernel
theorem dL_badOf_0 : decode cL_badOf 0 = .ok (.iload_n 0, 1) := by decide +kernel
theorem dL_badOf_1 : decode cL_badOf 1 = .ok (.iload_n 1, 1) := by decide +kernel
theorem dL_badOf_2 : decode cL_badOf 2 = .ok (.isub, 1) := by decide +kernel
theorem dL_badOf_3 : decode cL_badOf 3 = .ok (.istore_n 3, 1) := by decide +kernel
theorem dL_badOf_4 : decode cL_badOf 4 = .ok (.iload_n 3, 1) := by decide +kernel
theorem dL_badOf_5 : decode cL_badOf 5 = .ok (.ifCond .ge 12, 3) := by decide +kernel
theorem dL_badOf_8 : decode cL_badOf 8 = .ok (.ldc 238, 2) := by decide +kernel
theorem dL_badOf_10 : decode cL_badOf 10 = .ok (.iload_n 3, 1) := by decide +kernel
theorem dL_badOf_11 : decode cL_badOf 11 = .ok (.iload_n 3, 1) := by decide +kernel
theorem dL_badOf_12 : decode cL_badOf 12 = .ok (.imul, 1) := by decide +kernel
theorem dL_badOf_13 : decode cL_badOf 13 = .ok (.iadd, 1) := by decide +kernel
theorem dL_badOf_14 : decode cL_badOf 14 = .ok (.goto 18, 3) := by decide +kernel
theorem dL_badOf_17 : decode cL_badOf 17 = .ok (.iload_n 2, 1) := by decide +kernel
theorem dL_badOf_18 : decode cL_badOf 18 = .ok (.ifCond .eq 11, 3) := by decide +kernel
theorem dL_badOf_21 : decode cL_badOf 21 = .ok (.iload_n 3, 1) := by decide +kernel
theorem dL_badOf_22 : decode cL_badOf 22 = .ok (.iload_n 3, 1) := by decide +kernel
theorem dL_badOf_23 : decode cL_badOf 23 = .ok (.imul, 1) := by decide +kernel
theorem dL_badOf_24 : decode cL_badOf 24 = .ok (.iconst 4, 1) := by decide +kernel
theorem dL_badOf_25 : decode cL_badOf 25 = .ok (.idiv, 1) := by decide +kernel
theorem dL_badOf_26 : decode cL_badOf 26 = .ok (.goto 6, 3) := by decide +kernel
theorem dL_badOf_29 : decode cL_badOf 29 = .ok (.iload_n 3, 1) := by decide +kernel
theorem dL_badOf_30 : decode cL_badOf 30 = .ok (.iload_n 3, 1) := by decide +kernel
theorem dL_badOf_31 : decode cL_badOf 31 = .ok (.imul, 1) := by decide +kernel
theorem dL_badOf_32 : decode cL_badOf 32 = .ok (.ireturn, 1) := by decide +kernel
theorem dL_areLines_0 : decode cL_areLines 0 = .ok (.aload_n 0, 1) := by decide +kernel
theorem dL_areLines_1 : decode cL_areLines 1 = .ok (.iload_n 2, 1) := by decide +kernel
theorem dL_areLines_2 : decode cL_areLines 2 = .ok (.invokestatic 208, 3) := by decide +kernel
theorem dL_areLines_5 : decode cL_areLines 5 = .ok (.istore_n 3, 1) := by decide +kernel
theorem dL_areLines_6 : decode cL_areLines 6 = .ok (.bipush 25, 2) := by decide +kernel
theorem dL_areLines_8 : decode cL_areLines 8 = .ok (.newarray .int, 2) := by decide +kernel
theorem dL_areLines_10 : decode cL_areLines 10 = .ok (.astore 4, 2) := by decide +kernel
theorem dL_areLines_12 : decode cL_areLines 12 = .ok (.bipush 25, 2) := by decide +kernel
theorem dL_areLines_14 : decode cL_areLines 14 = .ok (.newarray .int, 2) := by decide +kernel
theorem dL_areLines_16 : decode cL_areLines 16 = .ok (.astore 5, 2) := by decide +kernel
theorem dL_areLines_18 : decode cL_areLines 18 = .ok (.iconst 0, 1) := by decide +kernel
theorem dL_areLines_19 : decode cL_areLines 19 = .ok (.istore 6, 2) := by decide +kernel
theorem dL_areLines_21 : decode cL_areLines 21 = .ok (.iload 6, 2) := by decide +kernel
theorem dL_areLines_23 : decode cL_areLines 23 = .ok (.iload_n 3, 1) := by decide +kernel
theorem dL_areLines_24 : decode cL_areLines 24 = .ok (.if_icmp .ge 29, 3) := by decide +kernel
theorem dL_areLines_27 : decode cL_areLines 27 = .ok (.aload 4, 2) := by decide +kernel
theorem dL_areLines_29 : decode cL_areLines 29 = .ok (.iload 6, 2) := by decide +kernel
theorem dL_areLines_31 : decode cL_areLines 31 = .ok (.iconst 1, 1) := by decide +kernel
theorem dL_areLines_32 : decode cL_areLines 32 = .ok (.iadd, 1) := by decide +kernel
theorem dL_areLines_33 : decode cL_areLines 33 = .ok (.aload 4, 2) := by decide +kernel
theorem dL_areLines_35 : decode cL_areLines 35 = .ok (.iload 6, 2) := by decide +kernel
theorem dL_areLines_37 : decode cL_areLines 37 = .ok (.iaload, 1) := by decide +kernel
theorem dL_areLines_38 : decode cL_areLines 38 = .ok (.aload_n 0, 1) := by decide +kernel
theorem dL_areLines_39 : decode cL_areLines 39 = .ok (.iload_n 2, 1) := by decide +kernel
theorem dL_areLines_40 : decode cL_areLines 40 = .ok (.iload 6, 2) := by decide +kernel
theorem dL_areLines_42 : decode cL_areLines 42 = .ok (.invokestatic 234, 3) := by decide +kernel
theorem dL_areLines_45 : decode cL_areLines 45 = .ok (.iadd, 1) := by decide +kernel
theorem dL_areLines_46 : decode cL_areLines 46 = .ok (.iastore, 1) := by decide +kernel
theorem dL_areLines_47 : decode cL_areLines 47 = .ok (.iinc 6 1, 3) := by decide +kernel
theorem dL_areLines_50 : decode cL_areLines 50 = .ok (.goto (-29), 3) := by decide +kernel
theorem dL_areLines_53 : decode cL_areLines 53 = .ok (.iconst 1, 1) := by decide +kernel
theorem dL_areLines_54 : decode cL_areLines 54 = .ok (.istore 6, 2) := by decide +kernel
theorem dL_areLines_56 : decode cL_areLines 56 = .ok (.iload 6, 2) := by decide +kernel
theorem dL_areLines_58 : decode cL_areLines 58 = .ok (.iload_n 3, 1) := by decide +kernel
theorem dL_areLines_59 : decode cL_areLines 59 = .ok (.if_icmp .gt 114, 3) := by decide +kernel
theorem dL_areLines_62 : decode cL_areLines 62 = .ok (.aload 5, 2) := by decide +kernel
theorem dL_areLines_64 : decode cL_areLines 64 = .ok (.iload 6, 2) := by decide +kernel
theorem dL_areLines_66 : decode cL_areLines 66 = .ok (.ldc 239, 2) := by decide +kernel
theorem dL_areLines_68 : decode cL_areLines 68 = .ok (.iastore, 1) := by decide +kernel
theorem dL_areLines_69 : decode cL_areLines 69 = .ok (.iconst 0, 1) := by decide +kernel
theorem dL_areLines_70 : decode cL_areLines 70 = .ok (.istore 7, 2) := by decide +kernel
theorem dL_areLines_72 : decode cL_areLines 72 = .ok (.iload 7, 2) := by decide +kernel
theorem dL_areLines_74 : decode cL_areLines 74 = .ok (.iload 6, 2) := by decide +kernel
theorem dL_areLines_76 : decode cL_areLines 76 = .ok (.if_icmp .ge 91, 3) := by decide +kernel
theorem dL_areLines_79 : decode cL_areLines 79 = .ok (.aload 4, 2) := by decide +kernel
theorem dL_areLines_81 : decode cL_areLines 81 = .ok (.iload 6, 2) := by decide +kernel
theorem dL_areLines_83 : decode cL_areLines 83 = .ok (.iaload, 1) := by decide +kernel
theorem dL_areLines_84 : decode cL_areLines 84 = .ok (.aload 4, 2) := by decide +kernel
theorem dL_areLines_86 : decode cL_areLines 86 = .ok (.iload 7, 2) := by decide +kernel
theorem dL_areLines_88 : decode cL_areLines 88 = .ok (.iaload, 1) := by decide +kernel
theorem dL_areLines_89 : decode cL_areLines 89 = .ok (.isub, 1) := by decide +kernel
theorem dL_areLines_90 : decode cL_areLines 90 = .ok (.istore 8, 2) := by decide +kernel
theorem dL_areLines_92 : decode cL_areLines 92 = .ok (.aload 5, 2) := by decide +kernel
theorem dL_areLines_94 : decode cL_areLines 94 = .ok (.iload 7, 2) := by decide +kernel
theorem dL_areLines_96 : decode cL_areLines 96 = .ok (.iaload, 1) := by decide +kernel
theorem dL_areLines_97 : decode cL_areLines 97 = .ok (.aload_n 1, 1) := by decide +kernel
theorem dL_areLines_98 : decode cL_areLines 98 = .ok (.iconst 1, 1) := by decide +kernel
theorem dL_areLines_99 : decode cL_areLines 99 = .ok (.iaload, 1) := by decide +kernel
theorem dL_areLines_100 : decode cL_areLines 100 = .ok (.iload 8, 2) := by decide +kernel
theorem dL_areLines_102 : decode cL_areLines 102 = .ok (.iload 6, 2) := by decide +kernel
theorem dL_areLines_104 : decode cL_areLines 104 = .ok (.iload_n 3, 1) := by decide +kernel
theorem dL_areLines_105 : decode cL_areLines 105 = .ok (.if_icmp .ne 7, 3) := by decide +kernel
theorem dL_areLines_108 : decode cL_areLines 108 = .ok (.iconst 1, 1) := by decide +kernel
theorem dL_areLines_109 : decode cL_areLines 109 = .ok (.goto 4, 3) := by decide +kernel
theorem dL_areLines_112 : decode cL_areLines 112 = .ok (.iconst 0, 1) := by decide +kernel
theorem dL_areLines_113 : decode cL_areLines 113 = .ok (.invokestatic 240, 3) := by decide +kernel
theorem dL_areLines_116 : decode cL_areLines 116 = .ok (.iadd, 1) := by decide +kernel
theorem dL_areLines_117 : decode cL_areLines 117 = .ok (.istore 9, 2) := by decide +kernel
theorem dL_areLines_119 : decode cL_areLines 119 = .ok (.aload 5, 2) := by decide +kernel
theorem dL_areLines_121 : decode cL_areLines 121 = .ok (.iload 6, 2) := by decide +kernel
theorem dL_areLines_123 : decode cL_areLines 123 = .ok (.iload 7, 2) := by decide +kernel
theorem dL_areLines_125 : decode cL_areLines 125 = .ok (.iload 6, 2) := by decide +kernel
theorem dL_areLines_127 : decode cL_areLines 127 = .ok (.iconst 1, 1) := by decide +kernel
theorem dL_areLines_128 : decode cL_areLines 128 = .ok (.isub, 1) := by decide +kernel
theorem dL_areLines_129 : decode cL_areLines 129 = .ok (.if_icmp .eq 11, 3) := by decide +kernel
theorem dL_areLines_132 : decode cL_areLines 132 = .ok (.iload 8, 2) := by decide +kernel
theorem dL_areLines_134 : decode cL_areLines 134 = .ok (.aload_n 1, 1) := by decide +kernel
theorem dL_areLines_135 : decode cL_areLines 135 = .ok (.iconst 1, 1) := by decide +kernel
theorem dL_areLines_136 : decode cL_areLines 136 = .ok (.iaload, 1) := by decide +kernel
theorem dL_areLines_137 : decode cL_areLines 137 = .ok (.if_icmp .gt 18, 3) := by decide +kernel
theorem dL_areLines_140 : decode cL_areLines 140 = .ok (.iload 9, 2) := by decide +kernel
theorem dL_areLines_142 : decode cL_areLines 142 = .ok (.aload 5, 2) := by decide +kernel
theorem dL_areLines_144 : decode cL_areLines 144 = .ok (.iload 6, 2) := by decide +kernel
theorem dL_areLines_146 : decode cL_areLines 146 = .ok (.iaload, 1) := by decide +kernel
theorem dL_areLines_147 : decode cL_areLines 147 = .ok (.if_icmp .ge 8, 3) := by decide +kernel
theorem dL_areLines_150 : decode cL_areLines 150 = .ok (.iload 9, 2) := by decide +kernel
theorem dL_areLines_152 : decode cL_areLines 152 = .ok (.goto 8, 3) := by decide +kernel
theorem dL_areLines_155 : decode cL_areLines 155 = .ok (.aload 5, 2) := by decide +kernel
theorem dL_areLines_157 : decode cL_areLines 157 = .ok (.iload 6, 2) := by decide +kernel
theorem dL_areLines_159 : decode cL_areLines 159 = .ok (.iaload, 1) := by decide +kernel
theorem dL_areLines_160 : decode cL_areLines 160 = .ok (.iastore, 1) := by decide +kernel
theorem dL_areLines_161 : decode cL_areLines 161 = .ok (.iinc 7 1, 3) := by decide +kernel
theorem dL_areLines_164 : decode cL_areLines 164 = .ok (.goto (-92), 3) := by decide +kernel
theorem dL_areLines_167 : decode cL_areLines 167 = .ok (.iinc 6 1, 3) := by decide +kernel
theorem dL_areLines_170 : decode cL_areLines 170 = .ok (.goto (-114), 3) := by decide +kernel
theorem dL_areLines_173 : decode cL_areLines 173 = .ok (.iconst 0, 1) := by decide +kernel
theorem dL_areLines_174 : decode cL_areLines 174 = .ok (.istore 6, 2) := by decide +kernel
theorem dL_areLines_176 : decode cL_areLines 176 = .ok (.aload_n 0, 1) := by decide +kernel
theorem dL_areLines_177 : decode cL_areLines 177 = .ok (.iload_n 2, 1) := by decide +kernel
theorem dL_areLines_178 : decode cL_areLines 178 = .ok (.invokestatic 244, 3) := by decide +kernel
theorem dL_areLines_181 : decode cL_areLines 181 = .ok (.istore 7, 2) := by decide +kernel
theorem dL_areLines_183 : decode cL_areLines 183 = .ok (.iconst 0, 1) := by decide +kernel
theorem dL_areLines_184 : decode cL_areLines 184 = .ok (.istore 8, 2) := by decide +kernel
theorem dL_areLines_186 : decode cL_areLines 186 = .ok (.iload 8, 2) := by decide +kernel
theorem dL_areLines_188 : decode cL_areLines 188 = .ok (.iload 7, 2) := by decide +kernel
theorem dL_areLines_190 : decode cL_areLines 190 = .ok (.if_icmp .ge 125, 3) := by decide +kernel
theorem dL_areLines_193 : decode cL_areLines 193 = .ok (.aload_n 0, 1) := by decide +kernel
theorem dL_areLines_194 : decode cL_areLines 194 = .ok (.iload_n 2, 1) := by decide +kernel
theorem dL_areLines_195 : decode cL_areLines 195 = .ok (.iload 8, 2) := by decide +kernel
theorem dL_areLines_197 : decode cL_areLines 197 = .ok (.invokestatic 246, 3) := by decide +kernel
theorem dL_areLines_200 : decode cL_areLines 200 = .ok (.istore 9, 2) := by decide +kernel
theorem dL_areLines_202 : decode cL_areLines 202 = .ok (.iload 8, 2) := by decide +kernel
theorem dL_areLines_204 : decode cL_areLines 204 = .ok (.iconst 1, 1) := by decide +kernel
theorem dL_areLines_205 : decode cL_areLines 205 = .ok (.iadd, 1) := by decide +kernel
theorem dL_areLines_206 : decode cL_areLines 206 = .ok (.iload 7, 2) := by decide +kernel
theorem dL_areLines_208 : decode cL_areLines 208 = .ok (.if_icmp .ge 15, 3) := by decide +kernel
theorem dL_areLines_211 : decode cL_areLines 211 = .ok (.aload_n 0, 1) := by decide +kernel
theorem dL_areLines_212 : decode cL_areLines 212 = .ok (.iload_n 2, 1) := by decide +kernel
theorem dL_areLines_213 : decode cL_areLines 213 = .ok (.iload 8, 2) := by decide +kernel
theorem dL_areLines_215 : decode cL_areLines 215 = .ok (.iconst 1, 1) := by decide +kernel
theorem dL_areLines_216 : decode cL_areLines 216 = .ok (.iadd, 1) := by decide +kernel
theorem dL_areLines_217 : decode cL_areLines 217 = .ok (.invokestatic 246, 3) := by decide +kernel
theorem dL_areLines_220 : decode cL_areLines 220 = .ok (.goto 4, 3) := by decide +kernel
theorem dL_areLines_223 : decode cL_areLines 223 = .ok (.iload_n 3, 1) := by decide +kernel
theorem dL_areLines_224 : decode cL_areLines 224 = .ok (.istore 10, 2) := by decide +kernel
theorem dL_areLines_226 : decode cL_areLines 226 = .ok (.iload 9, 2) := by decide +kernel
theorem dL_areLines_228 : decode cL_areLines 228 = .ok (.ifCond .lt 46, 3) := by decide +kernel
theorem dL_areLines_231 : decode cL_areLines 231 = .ok (.iload 10, 2) := by decide +kernel
theorem dL_areLines_233 : decode cL_areLines 233 = .ok (.iload 9, 2) := by decide +kernel
theorem dL_areLines_235 : decode cL_areLines 235 = .ok (.if_icmp .le 39, 3) := by decide +kernel
theorem dL_areLines_238 : decode cL_areLines 238 = .ok (.iload 8, 2) := by decide +kernel
theorem dL_areLines_240 : decode cL_areLines 240 = .ok (.ifCond .ne 8, 3) := by decide +kernel
theorem dL_areLines_243 : decode cL_areLines 243 = .ok (.iload 9, 2) := by decide +kernel
theorem dL_areLines_245 : decode cL_areLines 245 = .ok (.ifCond .ne 29, 3) := by decide +kernel
theorem dL_areLines_248 : decode cL_areLines 248 = .ok (.iload 10, 2) := by decide +kernel
theorem dL_areLines_250 : decode cL_areLines 250 = .ok (.iload 9, 2) := by decide +kernel
theorem dL_areLines_252 : decode cL_areLines 252 = .ok (.iconst 1, 1) := by decide +kernel
theorem dL_areLines_253 : decode cL_areLines 253 = .ok (.iadd, 1) := by decide +kernel
theorem dL_areLines_254 : decode cL_areLines 254 = .ok (.if_icmp .le 22, 3) := by decide +kernel
theorem dL_areLines_257 : decode cL_areLines 257 = .ok (.aload 4, 2) := by decide +kernel
theorem dL_areLines_259 : decode cL_areLines 259 = .ok (.iload 10, 2) := by decide +kernel
theorem dL_areLines_261 : decode cL_areLines 261 = .ok (.iaload, 1) := by decide +kernel
theorem dL_areLines_262 : decode cL_areLines 262 = .ok (.aload 4, 2) := by decide +kernel
theorem dL_areLines_264 : decode cL_areLines 264 = .ok (.iload 9, 2) := by decide +kernel
theorem dL_areLines_266 : decode cL_areLines 266 = .ok (.iaload, 1) := by decide +kernel
theorem dL_areLines_267 : decode cL_areLines 267 = .ok (.isub, 1) := by decide +kernel
theorem dL_areLines_268 : decode cL_areLines 268 = .ok (.aload_n 1, 1) := by decide +kernel
theorem dL_areLines_269 : decode cL_areLines 269 = .ok (.iconst 1, 1) := by decide +kernel
theorem dL_areLines_270 : decode cL_areLines 270 = .ok (.iaload, 1) := by decide +kernel
theorem dL_areLines_271 : decode cL_areLines 271 = .ok (.if_icmp .le 5, 3) := by decide +kernel
theorem dL_areLines_274 : decode cL_areLines 274 = .ok (.iconst 0, 1) := by decide +kernel
theorem dL_areLines_275 : decode cL_areLines 275 = .ok (.ireturn, 1) := by decide +kernel
theorem dL_areLines_276 : decode cL_areLines 276 = .ok (.iload 6, 2) := by decide +kernel
theorem dL_areLines_278 : decode cL_areLines 278 = .ok (.aload_n 1, 1) := by decide +kernel
theorem dL_areLines_279 : decode cL_areLines 279 = .ok (.iconst 1, 1) := by decide +kernel
theorem dL_areLines_280 : decode cL_areLines 280 = .ok (.iaload, 1) := by decide +kernel
theorem dL_areLines_281 : decode cL_areLines 281 = .ok (.aload 4, 2) := by decide +kernel
theorem dL_areLines_283 : decode cL_areLines 283 = .ok (.iload 10, 2) := by decide +kernel
theorem dL_areLines_285 : decode cL_areLines 285 = .ok (.iaload, 1) := by decide +kernel
theorem dL_areLines_286 : decode cL_areLines 286 = .ok (.aload 4, 2) := by decide +kernel
theorem dL_areLines_288 : decode cL_areLines 288 = .ok (.iload 9, 2) := by decide +kernel
theorem dL_areLines_290 : decode cL_areLines 290 = .ok (.iaload, 1) := by decide +kernel
theorem dL_areLines_291 : decode cL_areLines 291 = .ok (.isub, 1) := by decide +kernel
theorem dL_areLines_292 : decode cL_areLines 292 = .ok (.iload 10, 2) := by decide +kernel
theorem dL_areLines_294 : decode cL_areLines 294 = .ok (.iload_n 3, 1) := by decide +kernel
theorem dL_areLines_295 : decode cL_areLines 295 = .ok (.if_icmp .ne 7, 3) := by decide +kernel
theorem dL_areLines_298 : decode cL_areLines 298 = .ok (.iconst 1, 1) := by decide +kernel
theorem dL_areLines_299 : decode cL_areLines 299 = .ok (.goto 4, 3) := by decide +kernel
theorem dL_areLines_302 : decode cL_areLines 302 = .ok (.iconst 0, 1) := by decide +kernel
theorem dL_areLines_303 : decode cL_areLines 303 = .ok (.invokestatic 240, 3) := by decide +kernel
theorem dL_areLines_306 : decode cL_areLines 306 = .ok (.iadd, 1) := by decide +kernel
theorem dL_areLines_307 : decode cL_areLines 307 = .ok (.istore 6, 2) := by decide +kernel
theorem dL_areLines_309 : decode cL_areLines 309 = .ok (.iinc 8 1, 3) := by decide +kernel
theorem dL_areLines_312 : decode cL_areLines 312 = .ok (.goto (-126), 3) := by decide +kernel
theorem dL_areLines_315 : decode cL_areLines 315 = .ok (.iload 6, 2) := by decide +kernel
theorem dL_areLines_317 : decode cL_areLines 317 = .ok (.aload 5, 2) := by decide +kernel
theorem dL_areLines_319 : decode cL_areLines 319 = .ok (.iload_n 3, 1) := by decide +kernel
theorem dL_areLines_320 : decode cL_areLines 320 = .ok (.iaload, 1) := by decide +kernel
theorem dL_areLines_321 : decode cL_areLines 321 = .ok (.if_icmp .ne 40, 3) := by decide +kernel
theorem dL_areLines_324 : decode cL_areLines 324 = .ok (.aload_n 0, 1) := by decide +kernel
theorem dL_areLines_325 : decode cL_areLines 325 = .ok (.iload_n 2, 1) := by decide +kernel
theorem dL_areLines_326 : decode cL_areLines 326 = .ok (.invokestatic 248, 3) := by decide +kernel
theorem dL_areLines_329 : decode cL_areLines 329 = .ok (.iload 6, 2) := by decide +kernel
theorem dL_areLines_331 : decode cL_areLines 331 = .ok (.if_icmp .ne 30, 3) := by decide +kernel
theorem dL_areLines_334 : decode cL_areLines 334 = .ok (.aload_n 0, 1) := by decide +kernel
theorem dL_areLines_335 : decode cL_areLines 335 = .ok (.iload_n 2, 1) := by decide +kernel
theorem dL_areLines_336 : decode cL_areLines 336 = .ok (.iload 7, 2) := by decide +kernel
theorem dL_areLines_338 : decode cL_areLines 338 = .ok (.invokestatic 246, 3) := by decide +kernel
theorem dL_areLines_341 : decode cL_areLines 341 = .ok (.ldc 28, 2) := by decide +kernel
theorem dL_areLines_343 : decode cL_areLines 343 = .ok (.if_icmp .ne 18, 3) := by decide +kernel
theorem dL_areLines_346 : decode cL_areLines 346 = .ok (.aload_n 0, 1) := by decide +kernel
theorem dL_areLines_347 : decode cL_areLines 347 = .ok (.iload_n 2, 1) := by decide +kernel
theorem dL_areLines_348 : decode cL_areLines 348 = .ok (.iconst (-1), 1) := by decide +kernel
theorem dL_areLines_349 : decode cL_areLines 349 = .ok (.invokestatic 246, 3) := by decide +kernel
theorem dL_areLines_352 : decode cL_areLines 352 = .ok (.ldc 28, 2) := by decide +kernel
theorem dL_areLines_354 : decode cL_areLines 354 = .ok (.if_icmp .ne 7, 3) := by decide +kernel
theorem dL_areLines_357 : decode cL_areLines 357 = .ok (.iconst 1, 1) := by decide +kernel
theorem dL_areLines_358 : decode cL_areLines 358 = .ok (.goto 4, 3) := by decide +kernel
theorem dL_areLines_361 : decode cL_areLines 361 = .ok (.iconst 0, 1) := by decide +kernel
theorem dL_areLines_362 : decode cL_areLines 362 = .ok (.ireturn, 1) := by decide +kernel
theorem dL_arePages_0 : decode cL_arePages 0 = .ok (.aload_n 0, 1) := by decide +kernel
theorem dL_arePages_1 : decode cL_arePages 1 = .ok (.iload_n 2, 1) := by decide +kernel
theorem dL_arePages_2 : decode cL_arePages 2 = .ok (.invokestatic 250, 3) := by decide +kernel
theorem dL_arePages_5 : decode cL_arePages 5 = .ok (.istore_n 3, 1) := by decide +kernel
theorem dL_arePages_6 : decode cL_arePages 6 = .ok (.iconst 0, 1) := by decide +kernel
theorem dL_arePages_7 : decode cL_arePages 7 = .ok (.istore 4, 2) := by decide +kernel
theorem dL_arePages_9 : decode cL_arePages 9 = .ok (.iconst 0, 1) := by decide +kernel
theorem dL_arePages_10 : decode cL_arePages 10 = .ok (.istore 5, 2) := by decide +kernel
theorem dL_arePages_12 : decode cL_arePages 12 = .ok (.iconst 0, 1) := by decide +kernel
theorem dL_arePages_13 : decode cL_arePages 13 = .ok (.istore 6, 2) := by decide +kernel
theorem dL_arePages_15 : decode cL_arePages 15 = .ok (.iconst 0, 1) := by decide +kernel
theorem dL_arePages_16 : decode cL_arePages 16 = .ok (.istore 7, 2) := by decide +kernel
theorem dL_arePages_18 : decode cL_arePages 18 = .ok (.iload 7, 2) := by decide +kernel
theorem dL_arePages_20 : decode cL_arePages 20 = .ok (.iload_n 3, 1) := by decide +kernel
theorem dL_arePages_21 : decode cL_arePages 21 = .ok (.if_icmp .ge 262, 3) := by decide +kernel
theorem dL_arePages_24 : decode cL_arePages 24 = .ok (.aload_n 0, 1) := by decide +kernel
theorem dL_arePages_25 : decode cL_arePages 25 = .ok (.iload_n 2, 1) := by decide +kernel
theorem dL_arePages_26 : decode cL_arePages 26 = .ok (.iload 7, 2) := by decide +kernel
theorem dL_arePages_28 : decode cL_arePages 28 = .ok (.invokestatic 252, 3) := by decide +kernel
theorem dL_arePages_31 : decode cL_arePages 31 = .ok (.istore 8, 2) := by decide +kernel
theorem dL_arePages_33 : decode cL_arePages 33 = .ok (.iload 7, 2) := by decide +kernel
theorem dL_arePages_35 : decode cL_arePages 35 = .ok (.iconst 1, 1) := by decide +kernel
theorem dL_arePages_36 : decode cL_arePages 36 = .ok (.iadd, 1) := by decide +kernel
theorem dL_arePages_37 : decode cL_arePages 37 = .ok (.iload_n 3, 1) := by decide +kernel
theorem dL_arePages_38 : decode cL_arePages 38 = .ok (.if_icmp .ge 15, 3) := by decide +kernel
theorem dL_arePages_41 : decode cL_arePages 41 = .ok (.aload_n 0, 1) := by decide +kernel
theorem dL_arePages_42 : decode cL_arePages 42 = .ok (.iload_n 2, 1) := by decide +kernel
theorem dL_arePages_43 : decode cL_arePages 43 = .ok (.iload 7, 2) := by decide +kernel
theorem dL_arePages_45 : decode cL_arePages 45 = .ok (.iconst 1, 1) := by decide +kernel
theorem dL_arePages_46 : decode cL_arePages 46 = .ok (.iadd, 1) := by decide +kernel
theorem dL_arePages_47 : decode cL_arePages 47 = .ok (.invokestatic 252, 3) := by decide +kernel
theorem dL_arePages_50 : decode cL_arePages 50 = .ok (.goto 4, 3) := by decide +kernel
theorem dL_arePages_53 : decode cL_arePages 53 = .ok (.iconst 1, 1) := by decide +kernel
theorem dL_arePages_54 : decode cL_arePages 54 = .ok (.istore 9, 2) := by decide +kernel
theorem dL_arePages_56 : decode cL_arePages 56 = .ok (.iload 8, 2) := by decide +kernel
theorem dL_arePages_58 : decode cL_arePages 58 = .ok (.ifCond .lt 29, 3) := by decide +kernel
theorem dL_arePages_61 : decode cL_arePages 61 = .ok (.iload 8, 2) := by decide +kernel
theorem dL_arePages_63 : decode cL_arePages 63 = .ok (.aload_n 1, 1) := by decide +kernel
theorem dL_arePages_64 : decode cL_arePages 64 = .ok (.iconst 2, 1) := by decide +kernel
theorem dL_arePages_65 : decode cL_arePages 65 = .ok (.iaload, 1) := by decide +kernel
theorem dL_arePages_66 : decode cL_arePages 66 = .ok (.if_icmp .gt 21, 3) := by decide +kernel
theorem dL_arePages_69 : decode cL_arePages 69 = .ok (.iload 8, 2) := by decide +kernel
theorem dL_arePages_71 : decode cL_arePages 71 = .ok (.ifCond .ne 18, 3) := by decide +kernel
theorem dL_arePages_74 : decode cL_arePages 74 = .ok (.iload 7, 2) := by decide +kernel
theorem dL_arePages_76 : decode cL_arePages 76 = .ok (.iconst 1, 1) := by decide +kernel
theorem dL_arePages_77 : decode cL_arePages 77 = .ok (.iadd, 1) := by decide +kernel
theorem dL_arePages_78 : decode cL_arePages 78 = .ok (.iload_n 3, 1) := by decide +kernel
theorem dL_arePages_79 : decode cL_arePages 79 = .ok (.if_icmp .eq 8, 3) := by decide +kernel
theorem dL_arePages_82 : decode cL_arePages 82 = .ok (.iload 9, 2) := by decide +kernel
theorem dL_arePages_84 : decode cL_arePages 84 = .ok (.ifCond .ne 5, 3) := by decide +kernel
theorem dL_arePages_87 : decode cL_arePages 87 = .ok (.iconst 0, 1) := by decide +kernel
theorem dL_arePages_88 : decode cL_arePages 88 = .ok (.ireturn, 1) := by decide +kernel
theorem dL_arePages_89 : decode cL_arePages 89 = .ok (.iload 4, 2) := by decide +kernel
theorem dL_arePages_91 : decode cL_arePages 91 = .ok (.iload 8, 2) := by decide +kernel
theorem dL_arePages_93 : decode cL_arePages 93 = .ok (.iadd, 1) := by decide +kernel
theorem dL_arePages_94 : decode cL_arePages 94 = .ok (.istore 4, 2) := by decide +kernel
theorem dL_arePages_96 : decode cL_arePages 96 = .ok (.iload 7, 2) := by decide +kernel
theorem dL_arePages_98 : decode cL_arePages 98 = .ok (.iconst 1, 1) := by decide +kernel
theorem dL_arePages_99 : decode cL_arePages 99 = .ok (.iadd, 1) := by decide +kernel
theorem dL_arePages_100 : decode cL_arePages 100 = .ok (.iload_n 3, 1) := by decide +kernel
theorem dL_arePages_101 : decode cL_arePages 101 = .ok (.if_icmp .ge 176, 3) := by decide +kernel
theorem dL_arePages_104 : decode cL_arePages 104 = .ok (.iload 8, 2) := by decide +kernel
theorem dL_arePages_106 : decode cL_arePages 106 = .ok (.ifCond .le 171, 3) := by decide +kernel
theorem dL_arePages_109 : decode cL_arePages 109 = .ok (.iload 7, 2) := by decide +kernel
theorem dL_arePages_111 : decode cL_arePages 111 = .ok (.iconst 2, 1) := by decide +kernel
theorem dL_arePages_112 : decode cL_arePages 112 = .ok (.irem, 1) := by decide +kernel
theorem dL_arePages_113 : decode cL_arePages 113 = .ok (.ifCond .eq 8, 3) := by decide +kernel
theorem dL_arePages_116 : decode cL_arePages 116 = .ok (.iload 9, 2) := by decide +kernel
theorem dL_arePages_118 : decode cL_arePages 118 = .ok (.ifCond .ne 159, 3) := by decide +kernel
theorem dL_arePages_121 : decode cL_arePages 121 = .ok (.aload_n 0, 1) := by decide +kernel
theorem dL_arePages_122 : decode cL_arePages 122 = .ok (.iload_n 2, 1) := by decide +kernel
theorem dL_arePages_123 : decode cL_arePages 123 = .ok (.iload 4, 2) := by decide +kernel
theorem dL_arePages_125 : decode cL_arePages 125 = .ok (.invokestatic 246, 3) := by decide +kernel
theorem dL_arePages_128 : decode cL_arePages 128 = .ok (.istore 10, 2) := by decide +kernel
theorem dL_arePages_130 : decode cL_arePages 130 = .ok (.aload_n 0, 1) := by decide +kernel
theorem dL_arePages_131 : decode cL_arePages 131 = .ok (.iload_n 2, 1) := by decide +kernel
theorem dL_arePages_132 : decode cL_arePages 132 = .ok (.iload 10, 2) := by decide +kernel
theorem dL_arePages_134 : decode cL_arePages 134 = .ok (.invokestatic 232, 3) := by decide +kernel
theorem dL_arePages_137 : decode cL_arePages 137 = .ok (.iconst 1, 1) := by decide +kernel
theorem dL_arePages_138 : decode cL_arePages 138 = .ok (.isub, 1) := by decide +kernel
theorem dL_arePages_139 : decode cL_arePages 139 = .ok (.istore 11, 2) := by decide +kernel
theorem dL_arePages_141 : decode cL_arePages 141 = .ok (.aload_n 0, 1) := by decide +kernel
theorem dL_arePages_142 : decode cL_arePages 142 = .ok (.iload_n 2, 1) := by decide +kernel
theorem dL_arePages_143 : decode cL_arePages 143 = .ok (.iload 5, 2) := by decide +kernel
theorem dL_arePages_145 : decode cL_arePages 145 = .ok (.invokestatic 254, 3) := by decide +kernel
theorem dL_arePages_148 : decode cL_arePages 148 = .ok (.istore 12, 2) := by decide +kernel
theorem dL_arePages_150 : decode cL_arePages 150 = .ok (.iconst 0, 1) := by decide +kernel
theorem dL_arePages_151 : decode cL_arePages 151 = .ok (.istore 13, 2) := by decide +kernel
theorem dL_arePages_153 : decode cL_arePages 153 = .ok (.aload_n 0, 1) := by decide +kernel
theorem dL_arePages_154 : decode cL_arePages 154 = .ok (.iload 13, 2) := by decide +kernel
theorem dL_arePages_156 : decode cL_arePages 156 = .ok (.invokestatic 184, 3) := by decide +kernel
theorem dL_arePages_159 : decode cL_arePages 159 = .ok (.iload 11, 2) := by decide +kernel
theorem dL_arePages_161 : decode cL_arePages 161 = .ok (.iconst 1, 1) := by decide +kernel
theorem dL_arePages_162 : decode cL_arePages 162 = .ok (.iadd, 1) := by decide +kernel
theorem dL_arePages_163 : decode cL_arePages 163 = .ok (.if_icmp .eq 9, 3) := by decide +kernel
theorem dL_arePages_166 : decode cL_arePages 166 = .ok (.iinc 13 1, 3) := by decide +kernel
theorem dL_arePages_169 : decode cL_arePages 169 = .ok (.goto (-16), 3) := by decide +kernel
theorem dL_arePages_172 : decode cL_arePages 172 = .ok (.aload_n 0, 1) := by decide +kernel
theorem dL_arePages_173 : decode cL_arePages 173 = .ok (.iload_n 2, 1) := by decide +kernel
theorem dL_arePages_174 : decode cL_arePages 174 = .ok (.iload 5, 2) := by decide +kernel
theorem dL_arePages_176 : decode cL_arePages 176 = .ok (.invokestatic 256, 3) := by decide +kernel
theorem dL_arePages_179 : decode cL_arePages 179 = .ok (.iload 11, 2) := by decide +kernel
theorem dL_arePages_181 : decode cL_arePages 181 = .ok (.if_icmp .ne 73, 3) := by decide +kernel
theorem dL_arePages_184 : decode cL_arePages 184 = .ok (.aload_n 0, 1) := by decide +kernel
theorem dL_arePages_185 : decode cL_arePages 185 = .ok (.iload_n 2, 1) := by decide +kernel
theorem dL_arePages_186 : decode cL_arePages 186 = .ok (.iload 5, 2) := by decide +kernel
theorem dL_arePages_188 : decode cL_arePages 188 = .ok (.invokestatic 258, 3) := by decide +kernel
theorem dL_arePages_191 : decode cL_arePages 191 = .ok (.aload_n 0, 1) := by decide +kernel
theorem dL_arePages_192 : decode cL_arePages 192 = .ok (.iload 13, 2) := by decide +kernel
theorem dL_arePages_194 : decode cL_arePages 194 = .ok (.invokestatic 189, 3) := by decide +kernel
theorem dL_arePages_197 : decode cL_arePages 197 = .ok (.if_icmp .ne 57, 3) := by decide +kernel
theorem dL_arePages_200 : decode cL_arePages 200 = .ok (.iload 12, 2) := by decide +kernel
theorem dL_arePages_202 : decode cL_arePages 202 = .ok (.ifCond .lt 52, 3) := by decide +kernel
theorem dL_arePages_205 : decode cL_arePages 205 = .ok (.iload 12, 2) := by decide +kernel
theorem dL_arePages_207 : decode cL_arePages 207 = .ok (.aload_n 0, 1) := by decide +kernel
theorem dL_arePages_208 : decode cL_arePages 208 = .ok (.invokevirtual 197, 3) := by decide +kernel
theorem dL_arePages_211 : decode cL_arePages 211 = .ok (.if_icmp .gt 43, 3) := by decide +kernel
theorem dL_arePages_214 : decode cL_arePages 214 = .ok (.aload_n 0, 1) := by decide +kernel
theorem dL_arePages_215 : decode cL_arePages 215 = .ok (.iload_n 2, 1) := by decide +kernel
theorem dL_arePages_216 : decode cL_arePages 216 = .ok (.iload 11, 2) := by decide +kernel
theorem dL_arePages_218 : decode cL_arePages 218 = .ok (.invokestatic 260, 3) := by decide +kernel
theorem dL_arePages_221 : decode cL_arePages 221 = .ok (.iload 7, 2) := by decide +kernel
theorem dL_arePages_223 : decode cL_arePages 223 = .ok (.if_icmp .ne 31, 3) := by decide +kernel
theorem dL_arePages_226 : decode cL_arePages 226 = .ok (.aload_n 0, 1) := by decide +kernel
theorem dL_arePages_227 : decode cL_arePages 227 = .ok (.iload_n 2, 1) := by decide +kernel
theorem dL_arePages_228 : decode cL_arePages 228 = .ok (.iload 11, 2) := by decide +kernel
theorem dL_arePages_230 : decode cL_arePages 230 = .ok (.iconst 1, 1) := by decide +kernel
theorem dL_arePages_231 : decode cL_arePages 231 = .ok (.iadd, 1) := by decide +kernel
theorem dL_arePages_232 : decode cL_arePages 232 = .ok (.invokestatic 260, 3) := by decide +kernel
theorem dL_arePages_235 : decode cL_arePages 235 = .ok (.iload 9, 2) := by decide +kernel
theorem dL_arePages_237 : decode cL_arePages 237 = .ok (.ifCond .ne 10, 3) := by decide +kernel
theorem dL_arePages_240 : decode cL_arePages 240 = .ok (.iload 7, 2) := by decide +kernel
theorem dL_arePages_242 : decode cL_arePages 242 = .ok (.iconst 2, 1) := by decide +kernel
theorem dL_arePages_243 : decode cL_arePages 243 = .ok (.iadd, 1) := by decide +kernel
theorem dL_arePages_244 : decode cL_arePages 244 = .ok (.goto 7, 3) := by decide +kernel
theorem dL_arePages_247 : decode cL_arePages 247 = .ok (.iload 7, 2) := by decide +kernel
theorem dL_arePages_249 : decode cL_arePages 249 = .ok (.iconst 1, 1) := by decide +kernel
theorem dL_arePages_250 : decode cL_arePages 250 = .ok (.iadd, 1) := by decide +kernel
theorem dL_arePages_251 : decode cL_arePages 251 = .ok (.if_icmp .eq 5, 3) := by decide +kernel
theorem dL_arePages_254 : decode cL_arePages 254 = .ok (.iconst 0, 1) := by decide +kernel
theorem dL_arePages_255 : decode cL_arePages 255 = .ok (.ireturn, 1) := by decide +kernel
theorem dL_arePages_256 : decode cL_arePages 256 = .ok (.iload 6, 2) := by decide +kernel
theorem dL_arePages_258 : decode cL_arePages 258 = .ok (.iload 12, 2) := by decide +kernel
theorem dL_arePages_260 : decode cL_arePages 260 = .ok (.aload_n 1, 1) := by decide +kernel
theorem dL_arePages_261 : decode cL_arePages 261 = .ok (.iconst 3, 1) := by decide +kernel
theorem dL_arePages_262 : decode cL_arePages 262 = .ok (.iaload, 1) := by decide +kernel
theorem dL_arePages_263 : decode cL_arePages 263 = .ok (.if_icmp .ge 7, 3) := by decide +kernel
theorem dL_arePages_266 : decode cL_arePages 266 = .ok (.iconst 1, 1) := by decide +kernel
theorem dL_arePages_267 : decode cL_arePages 267 = .ok (.goto 4, 3) := by decide +kernel
theorem dL_arePages_270 : decode cL_arePages 270 = .ok (.iconst 0, 1) := by decide +kernel
theorem dL_arePages_271 : decode cL_arePages 271 = .ok (.iadd, 1) := by decide +kernel
theorem dL_arePages_272 : decode cL_arePages 272 = .ok (.istore 6, 2) := by decide +kernel
theorem dL_arePages_274 : decode cL_arePages 274 = .ok (.iinc 5 1, 3) := by decide +kernel
theorem dL_arePages_277 : decode cL_arePages 277 = .ok (.iinc 7 1, 3) := by decide +kernel
theorem dL_arePages_280 : decode cL_arePages 280 = .ok (.goto (-262), 3) := by decide +kernel
theorem dL_arePages_283 : decode cL_arePages 283 = .ok (.aload_n 0, 1) := by decide +kernel
theorem dL_arePages_284 : decode cL_arePages 284 = .ok (.iload_n 2, 1) := by decide +kernel
theorem dL_arePages_285 : decode cL_arePages 285 = .ok (.invokestatic 262, 3) := by decide +kernel
theorem dL_arePages_288 : decode cL_arePages 288 = .ok (.istore 7, 2) := by decide +kernel
theorem dL_arePages_290 : decode cL_arePages 290 = .ok (.iload 4, 2) := by decide +kernel
theorem dL_arePages_292 : decode cL_arePages 292 = .ok (.aload_n 0, 1) := by decide +kernel
theorem dL_arePages_293 : decode cL_arePages 293 = .ok (.iload_n 2, 1) := by decide +kernel
theorem dL_arePages_294 : decode cL_arePages 294 = .ok (.invokestatic 244, 3) := by decide +kernel
theorem dL_arePages_297 : decode cL_arePages 297 = .ok (.if_icmp .ne 47, 3) := by decide +kernel
theorem dL_arePages_300 : decode cL_arePages 300 = .ok (.aload_n 0, 1) := by decide +kernel
theorem dL_arePages_301 : decode cL_arePages 301 = .ok (.iload_n 2, 1) := by decide +kernel
theorem dL_arePages_302 : decode cL_arePages 302 = .ok (.invokestatic 264, 3) := by decide +kernel
theorem dL_arePages_305 : decode cL_arePages 305 = .ok (.iload 5, 2) := by decide +kernel
theorem dL_arePages_307 : decode cL_arePages 307 = .ok (.if_icmp .ne 37, 3) := by decide +kernel
theorem dL_arePages_310 : decode cL_arePages 310 = .ok (.aload_n 0, 1) := by decide +kernel
theorem dL_arePages_311 : decode cL_arePages 311 = .ok (.iload_n 2, 1) := by decide +kernel
theorem dL_arePages_312 : decode cL_arePages 312 = .ok (.invokestatic 266, 3) := by decide +kernel
theorem dL_arePages_315 : decode cL_arePages 315 = .ok (.iload 6, 2) := by decide +kernel
theorem dL_arePages_317 : decode cL_arePages 317 = .ok (.if_icmp .lt 27, 3) := by decide +kernel
theorem dL_arePages_320 : decode cL_arePages 320 = .ok (.aload_n 0, 1) := by decide +kernel
theorem dL_arePages_321 : decode cL_arePages 321 = .ok (.iload_n 2, 1) := by decide +kernel
theorem dL_arePages_322 : decode cL_arePages 322 = .ok (.invokestatic 266, 3) := by decide +kernel
theorem dL_arePages_325 : decode cL_arePages 325 = .ok (.iload 5, 2) := by decide +kernel
theorem dL_arePages_327 : decode cL_arePages 327 = .ok (.if_icmp .gt 17, 3) := by decide +kernel
theorem dL_arePages_330 : decode cL_arePages 330 = .ok (.iload 7, 2) := by decide +kernel
theorem dL_arePages_332 : decode cL_arePages 332 = .ok (.iload_n 3, 1) := by decide +kernel
theorem dL_arePages_333 : decode cL_arePages 333 = .ok (.iconst 3, 1) := by decide +kernel
theorem dL_arePages_334 : decode cL_arePages 334 = .ok (.iadd, 1) := by decide +kernel
theorem dL_arePages_335 : decode cL_arePages 335 = .ok (.iconst 4, 1) := by decide +kernel
theorem dL_arePages_336 : decode cL_arePages 336 = .ok (.idiv, 1) := by decide +kernel
theorem dL_arePages_337 : decode cL_arePages 337 = .ok (.if_icmp .ne 7, 3) := by decide +kernel
theorem dL_arePages_340 : decode cL_arePages 340 = .ok (.iconst 1, 1) := by decide +kernel
theorem dL_arePages_341 : decode cL_arePages 341 = .ok (.goto 4, 3) := by decide +kernel
theorem dL_arePages_344 : decode cL_arePages 344 = .ok (.iconst 0, 1) := by decide +kernel
theorem dL_arePages_345 : decode cL_arePages 345 = .ok (.istore 8, 2) := by decide +kernel
theorem dL_arePages_347 : decode cL_arePages 347 = .ok (.iconst 0, 1) := by decide +kernel
theorem dL_arePages_348 : decode cL_arePages 348 = .ok (.istore 9, 2) := by decide +kernel
theorem dL_arePages_350 : decode cL_arePages 350 = .ok (.iload 9, 2) := by decide +kernel
theorem dL_arePages_352 : decode cL_arePages 352 = .ok (.iload 7, 2) := by decide +kernel
theorem dL_arePages_354 : decode cL_arePages 354 = .ok (.if_icmp .ge 102, 3) := by decide +kernel
theorem dL_arePages_357 : decode cL_arePages 357 = .ok (.aload_n 0, 1) := by decide +kernel
theorem dL_arePages_358 : decode cL_arePages 358 = .ok (.iload_n 2, 1) := by decide +kernel
theorem dL_arePages_359 : decode cL_arePages 359 = .ok (.iload 9, 2) := by decide +kernel
theorem dL_arePages_361 : decode cL_arePages 361 = .ok (.iconst 1, 1) := by decide +kernel
theorem dL_arePages_362 : decode cL_arePages 362 = .ok (.iconst 1, 1) := by decide +kernel
theorem dL_arePages_363 : decode cL_arePages 363 = .ok (.invokestatic 268, 3) := by decide +kernel
theorem dL_arePages_366 : decode cL_arePages 366 = .ok (.istore 10, 2) := by decide +kernel
theorem dL_arePages_368 : decode cL_arePages 368 = .ok (.aload_n 0, 1) := by decide +kernel
theorem dL_arePages_369 : decode cL_arePages 369 = .ok (.iload_n 2, 1) := by decide +kernel
theorem dL_arePages_370 : decode cL_arePages 370 = .ok (.iload 9, 2) := by decide +kernel
theorem dL_arePages_372 : decode cL_arePages 372 = .ok (.iconst 0, 1) := by decide +kernel
theorem dL_arePages_373 : decode cL_arePages 373 = .ok (.iconst 1, 1) := by decide +kernel
theorem dL_arePages_374 : decode cL_arePages 374 = .ok (.invokestatic 268, 3) := by decide +kernel
theorem dL_arePages_377 : decode cL_arePages 377 = .ok (.istore 11, 2) := by decide +kernel
theorem dL_arePages_379 : decode cL_arePages 379 = .ok (.iload 8, 2) := by decide +kernel
theorem dL_arePages_381 : decode cL_arePages 381 = .ok (.ifCond .eq 66, 3) := by decide +kernel
theorem dL_arePages_384 : decode cL_arePages 384 = .ok (.iload 10, 2) := by decide +kernel
theorem dL_arePages_386 : decode cL_arePages 386 = .ok (.iconst 4, 1) := by decide +kernel
theorem dL_arePages_387 : decode cL_arePages 387 = .ok (.iload 7, 2) := by decide +kernel
theorem dL_arePages_389 : decode cL_arePages 389 = .ok (.imul, 1) := by decide +kernel
theorem dL_arePages_390 : decode cL_arePages 390 = .ok (.iconst 1, 1) := by decide +kernel
theorem dL_arePages_391 : decode cL_arePages 391 = .ok (.isub, 1) := by decide +kernel
theorem dL_arePages_392 : decode cL_arePages 392 = .ok (.iconst 2, 1) := by decide +kernel
theorem dL_arePages_393 : decode cL_arePages 393 = .ok (.iload 9, 2) := by decide +kernel
theorem dL_arePages_395 : decode cL_arePages 395 = .ok (.imul, 1) := by decide +kernel
theorem dL_arePages_396 : decode cL_arePages 396 = .ok (.isub, 1) := by decide +kernel
theorem dL_arePages_397 : decode cL_arePages 397 = .ok (.if_icmp .ne 50, 3) := by decide +kernel
theorem dL_arePages_400 : decode cL_arePages 400 = .ok (.aload_n 0, 1) := by decide +kernel
theorem dL_arePages_401 : decode cL_arePages 401 = .ok (.iload_n 2, 1) := by decide +kernel
theorem dL_arePages_402 : decode cL_arePages 402 = .ok (.iload 9, 2) := by decide +kernel
theorem dL_arePages_404 : decode cL_arePages 404 = .ok (.iconst 1, 1) := by decide +kernel
theorem dL_arePages_405 : decode cL_arePages 405 = .ok (.iconst 0, 1) := by decide +kernel
theorem dL_arePages_406 : decode cL_arePages 406 = .ok (.invokestatic 268, 3) := by decide +kernel
theorem dL_arePages_409 : decode cL_arePages 409 = .ok (.iconst 2, 1) := by decide +kernel
theorem dL_arePages_410 : decode cL_arePages 410 = .ok (.iload 9, 2) := by decide +kernel
theorem dL_arePages_412 : decode cL_arePages 412 = .ok (.imul, 1) := by decide +kernel
theorem dL_arePages_413 : decode cL_arePages 413 = .ok (.if_icmp .ne 34, 3) := by decide +kernel
theorem dL_arePages_416 : decode cL_arePages 416 = .ok (.iload 11, 2) := by decide +kernel
theorem dL_arePages_418 : decode cL_arePages 418 = .ok (.iconst 2, 1) := by decide +kernel
theorem dL_arePages_419 : decode cL_arePages 419 = .ok (.iload 9, 2) := by decide +kernel
theorem dL_arePages_421 : decode cL_arePages 421 = .ok (.imul, 1) := by decide +kernel
theorem dL_arePages_422 : decode cL_arePages 422 = .ok (.iconst 1, 1) := by decide +kernel
theorem dL_arePages_423 : decode cL_arePages 423 = .ok (.iadd, 1) := by decide +kernel
theorem dL_arePages_424 : decode cL_arePages 424 = .ok (.if_icmp .ne 23, 3) := by decide +kernel
theorem dL_arePages_427 : decode cL_arePages 427 = .ok (.aload_n 0, 1) := by decide +kernel
theorem dL_arePages_428 : decode cL_arePages 428 = .ok (.iload_n 2, 1) := by decide +kernel
theorem dL_arePages_429 : decode cL_arePages 429 = .ok (.iload 9, 2) := by decide +kernel
theorem dL_arePages_431 : decode cL_arePages 431 = .ok (.iconst 0, 1) := by decide +kernel
theorem dL_arePages_432 : decode cL_arePages 432 = .ok (.iconst 0, 1) := by decide +kernel
theorem dL_arePages_433 : decode cL_arePages 433 = .ok (.invokestatic 268, 3) := by decide +kernel
theorem dL_arePages_436 : decode cL_arePages 436 = .ok (.iload 10, 2) := by decide +kernel
theorem dL_arePages_438 : decode cL_arePages 438 = .ok (.iconst 1, 1) := by decide +kernel
theorem dL_arePages_439 : decode cL_arePages 439 = .ok (.isub, 1) := by decide +kernel
theorem dL_arePages_440 : decode cL_arePages 440 = .ok (.if_icmp .ne 7, 3) := by decide +kernel
theorem dL_arePages_443 : decode cL_arePages 443 = .ok (.iconst 1, 1) := by decide +kernel
theorem dL_arePages_444 : decode cL_arePages 444 = .ok (.goto 4, 3) := by decide +kernel
theorem dL_arePages_447 : decode cL_arePages 447 = .ok (.iconst 0, 1) := by decide +kernel
theorem dL_arePages_448 : decode cL_arePages 448 = .ok (.istore 8, 2) := by decide +kernel
theorem dL_arePages_450 : decode cL_arePages 450 = .ok (.iinc 9 1, 3) := by decide +kernel
theorem dL_arePages_453 : decode cL_arePages 453 = .ok (.goto (-103), 3) := by decide +kernel
theorem dL_arePages_456 : decode cL_arePages 456 = .ok (.iload 8, 2) := by decide +kernel
theorem dL_arePages_458 : decode cL_arePages 458 = .ok (.ifCond .eq 80, 3) := by decide +kernel
theorem dL_arePages_461 : decode cL_arePages 461 = .ok (.aload_n 0, 1) := by decide +kernel
theorem dL_arePages_462 : decode cL_arePages 462 = .ok (.iload_n 2, 1) := by decide +kernel
theorem dL_arePages_463 : decode cL_arePages 463 = .ok (.iload_n 3, 1) := by decide +kernel
theorem dL_arePages_464 : decode cL_arePages 464 = .ok (.invokestatic 252, 3) := by decide +kernel
theorem dL_arePages_467 : decode cL_arePages 467 = .ok (.ldc 28, 2) := by decide +kernel
theorem dL_arePages_469 : decode cL_arePages 469 = .ok (.if_icmp .ne 69, 3) := by decide +kernel
theorem dL_arePages_472 : decode cL_arePages 472 = .ok (.aload_n 0, 1) := by decide +kernel
theorem dL_arePages_473 : decode cL_arePages 473 = .ok (.iload_n 2, 1) := by decide +kernel
theorem dL_arePages_474 : decode cL_arePages 474 = .ok (.iload 5, 2) := by decide +kernel
theorem dL_arePages_476 : decode cL_arePages 476 = .ok (.invokestatic 256, 3) := by decide +kernel
theorem dL_arePages_479 : decode cL_arePages 479 = .ok (.ldc 28, 2) := by decide +kernel
theorem dL_arePages_481 : decode cL_arePages 481 = .ok (.if_icmp .ne 57, 3) := by decide +kernel
theorem dL_arePages_484 : decode cL_arePages 484 = .ok (.aload_n 0, 1) := by decide +kernel
theorem dL_arePages_485 : decode cL_arePages 485 = .ok (.iload_n 2, 1) := by decide +kernel
theorem dL_arePages_486 : decode cL_arePages 486 = .ok (.iload 5, 2) := by decide +kernel
theorem dL_arePages_488 : decode cL_arePages 488 = .ok (.invokestatic 258, 3) := by decide +kernel
theorem dL_arePages_491 : decode cL_arePages 491 = .ok (.ldc 28, 2) := by decide +kernel
theorem dL_arePages_493 : decode cL_arePages 493 = .ok (.if_icmp .ne 45, 3) := by decide +kernel
theorem dL_arePages_496 : decode cL_arePages 496 = .ok (.aload_n 0, 1) := by decide +kernel
theorem dL_arePages_497 : decode cL_arePages 497 = .ok (.iload_n 2, 1) := by decide +kernel
theorem dL_arePages_498 : decode cL_arePages 498 = .ok (.iconst (-1), 1) := by decide +kernel
theorem dL_arePages_499 : decode cL_arePages 499 = .ok (.invokestatic 254, 3) := by decide +kernel
theorem dL_arePages_502 : decode cL_arePages 502 = .ok (.ldc 28, 2) := by decide +kernel
theorem dL_arePages_504 : decode cL_arePages 504 = .ok (.if_icmp .ne 34, 3) := by decide +kernel
theorem dL_arePages_507 : decode cL_arePages 507 = .ok (.aload_n 0, 1) := by decide +kernel
theorem dL_arePages_508 : decode cL_arePages 508 = .ok (.iload_n 2, 1) := by decide +kernel
theorem dL_arePages_509 : decode cL_arePages 509 = .ok (.aload_n 1, 1) := by decide +kernel
theorem dL_arePages_510 : decode cL_arePages 510 = .ok (.iconst 0, 1) := by decide +kernel
theorem dL_arePages_511 : decode cL_arePages 511 = .ok (.iaload, 1) := by decide +kernel
theorem dL_arePages_512 : decode cL_arePages 512 = .ok (.invokestatic 260, 3) := by decide +kernel
theorem dL_arePages_515 : decode cL_arePages 515 = .ok (.ldc 28, 2) := by decide +kernel
theorem dL_arePages_517 : decode cL_arePages 517 = .ok (.if_icmp .ne 21, 3) := by decide +kernel
theorem dL_arePages_520 : decode cL_arePages 520 = .ok (.aload_n 0, 1) := by decide +kernel
theorem dL_arePages_521 : decode cL_arePages 521 = .ok (.iload_n 2, 1) := by decide +kernel
theorem dL_arePages_522 : decode cL_arePages 522 = .ok (.iload 7, 2) := by decide +kernel
theorem dL_arePages_524 : decode cL_arePages 524 = .ok (.iconst 1, 1) := by decide +kernel
theorem dL_arePages_525 : decode cL_arePages 525 = .ok (.iconst 1, 1) := by decide +kernel
theorem dL_arePages_526 : decode cL_arePages 526 = .ok (.invokestatic 268, 3) := by decide +kernel
theorem dL_arePages_529 : decode cL_arePages 529 = .ok (.ldc 28, 2) := by decide +kernel
theorem dL_arePages_531 : decode cL_arePages 531 = .ok (.if_icmp .ne 7, 3) := by decide +kernel
theorem dL_arePages_534 : decode cL_arePages 534 = .ok (.iconst 1, 1) := by decide +kernel
theorem dL_arePages_535 : decode cL_arePages 535 = .ok (.goto 4, 3) := by decide +kernel
theorem dL_arePages_538 : decode cL_arePages 538 = .ok (.iconst 0, 1) := by decide +kernel
theorem dL_arePages_539 : decode cL_arePages 539 = .ok (.ireturn, 1) := by decide +kernel
theorem dL_isSo_0 : decode cL_isSo 0 = .ok (.aload_n 0, 1) := by decide +kernel
theorem dL_isSo_1 : decode cL_isSo 1 = .ok (.aload_n 1, 1) := by decide +kernel
theorem dL_isSo_2 : decode cL_isSo 2 = .ok (.invokestatic 271, 3) := by decide +kernel
theorem dL_isSo_5 : decode cL_isSo 5 = .ok (.ifCond .eq 15, 3) := by decide +kernel
theorem dL_isSo_8 : decode cL_isSo 8 = .ok (.aload_n 0, 1) := by decide +kernel
theorem dL_isSo_9 : decode cL_isSo 9 = .ok (.iload_n 2, 1) := by decide +kernel
theorem dL_isSo_10 : decode cL_isSo 10 = .ok (.invokestatic 275, 3) := by decide +kernel
theorem dL_isSo_13 : decode cL_isSo 13 = .ok (.ifCond .eq 7, 3) := by decide +kernel
theorem dL_isSo_16 : decode cL_isSo 16 = .ok (.iconst 1, 1) := by decide +kernel
theorem dL_isSo_17 : decode cL_isSo 17 = .ok (.goto 4, 3) := by decide +kernel
theorem dL_isSo_20 : decode cL_isSo 20 = .ok (.iconst 0, 1) := by decide +kernel
theorem dL_isSo_21 : decode cL_isSo 21 = .ok (.istore_n 3, 1) := by decide +kernel
theorem dL_isSo_22 : decode cL_isSo 22 = .ok (.iload_n 2, 1) := by decide +kernel
theorem dL_isSo_23 : decode cL_isSo 23 = .ok (.iconst 3, 1) := by decide +kernel
theorem dL_isSo_24 : decode cL_isSo 24 = .ok (.ishr, 1) := by decide +kernel
theorem dL_isSo_25 : decode cL_isSo 25 = .ok (.iconst 4, 1) := by decide +kernel
theorem dL_isSo_26 : decode cL_isSo 26 = .ok (.invokestatic 213, 3) := by decide +kernel
theorem dL_isSo_29 : decode cL_isSo 29 = .ok (.istore 4, 2) := by decide +kernel
theorem dL_isSo_31 : decode cL_isSo 31 = .ok (.iconst 0, 1) := by decide +kernel
theorem dL_isSo_32 : decode cL_isSo 32 = .ok (.istore 5, 2) := by decide +kernel
theorem dL_isSo_34 : decode cL_isSo 34 = .ok (.iload 5, 2) := by decide +kernel
theorem dL_isSo_36 : decode cL_isSo 36 = .ok (.iconst 4, 1) := by decide +kernel
theorem dL_isSo_37 : decode cL_isSo 37 = .ok (.if_icmp .ge 241, 3) := by decide +kernel
theorem dL_isSo_40 : decode cL_isSo 40 = .ok (.iload_n 3, 1) := by decide +kernel
theorem dL_isSo_41 : decode cL_isSo 41 = .ok (.ifCond .eq 237, 3) := by decide +kernel
theorem dL_isSo_44 : decode cL_isSo 44 = .ok (.aload_n 0, 1) := by decide +kernel
theorem dL_isSo_45 : decode cL_isSo 45 = .ok (.iload 5, 2) := by decide +kernel
theorem dL_isSo_47 : decode cL_isSo 47 = .ok (.invokestatic 208, 3) := by decide +kernel
theorem dL_isSo_50 : decode cL_isSo 50 = .ok (.ifCond .lt 28, 3) := by decide +kernel
theorem dL_isSo_53 : decode cL_isSo 53 = .ok (.iload 5, 2) := by decide +kernel
theorem dL_isSo_55 : decode cL_isSo 55 = .ok (.iload 4, 2) := by decide +kernel
theorem dL_isSo_57 : decode cL_isSo 57 = .ok (.if_icmp .eq 21, 3) := by decide +kernel
theorem dL_isSo_60 : decode cL_isSo 60 = .ok (.aload_n 0, 1) := by decide +kernel
theorem dL_isSo_61 : decode cL_isSo 61 = .ok (.iload 5, 2) := by decide +kernel
theorem dL_isSo_63 : decode cL_isSo 63 = .ok (.invokestatic 248, 3) := by decide +kernel
theorem dL_isSo_66 : decode cL_isSo 66 = .ok (.ifCond .lt 7, 3) := by decide +kernel
theorem dL_isSo_69 : decode cL_isSo 69 = .ok (.iconst 1, 1) := by decide +kernel
theorem dL_isSo_70 : decode cL_isSo 70 = .ok (.goto 4, 3) := by decide +kernel
theorem dL_isSo_73 : decode cL_isSo 73 = .ok (.iconst 0, 1) := by decide +kernel
theorem dL_isSo_74 : decode cL_isSo 74 = .ok (.istore_n 3, 1) := by decide +kernel
theorem dL_isSo_75 : decode cL_isSo 75 = .ok (.goto 197, 3) := by decide +kernel
theorem dL_isSo_78 : decode cL_isSo 78 = .ok (.aload_n 0, 1) := by decide +kernel
theorem dL_isSo_79 : decode cL_isSo 79 = .ok (.iload 5, 2) := by decide +kernel
theorem dL_isSo_81 : decode cL_isSo 81 = .ok (.invokestatic 208, 3) := by decide +kernel
theorem dL_isSo_84 : decode cL_isSo 84 = .ok (.ifCond .lt 42, 3) := by decide +kernel
theorem dL_isSo_87 : decode cL_isSo 87 = .ok (.aload_n 0, 1) := by decide +kernel
theorem dL_isSo_88 : decode cL_isSo 88 = .ok (.aload_n 1, 1) := by decide +kernel
theorem dL_isSo_89 : decode cL_isSo 89 = .ok (.iload 5, 2) := by decide +kernel
theorem dL_isSo_91 : decode cL_isSo 91 = .ok (.invokestatic 279, 3) := by decide +kernel
theorem dL_isSo_94 : decode cL_isSo 94 = .ok (.ifCond .eq 27, 3) := by decide +kernel
theorem dL_isSo_97 : decode cL_isSo 97 = .ok (.aload_n 0, 1) := by decide +kernel
theorem dL_isSo_98 : decode cL_isSo 98 = .ok (.aload_n 1, 1) := by decide +kernel
theorem dL_isSo_99 : decode cL_isSo 99 = .ok (.iload 5, 2) := by decide +kernel
theorem dL_isSo_101 : decode cL_isSo 101 = .ok (.invokestatic 283, 3) := by decide +kernel
theorem dL_isSo_104 : decode cL_isSo 104 = .ok (.ifCond .eq 17, 3) := by decide +kernel
theorem dL_isSo_107 : decode cL_isSo 107 = .ok (.aload_n 0, 1) := by decide +kernel
theorem dL_isSo_108 : decode cL_isSo 108 = .ok (.aload_n 1, 1) := by decide +kernel
theorem dL_isSo_109 : decode cL_isSo 109 = .ok (.iload 5, 2) := by decide +kernel
theorem dL_isSo_111 : decode cL_isSo 111 = .ok (.invokestatic 286, 3) := by decide +kernel
theorem dL_isSo_114 : decode cL_isSo 114 = .ok (.ifCond .eq 7, 3) := by decide +kernel
theorem dL_isSo_117 : decode cL_isSo 117 = .ok (.iconst 1, 1) := by decide +kernel
theorem dL_isSo_118 : decode cL_isSo 118 = .ok (.goto 4, 3) := by decide +kernel
theorem dL_isSo_121 : decode cL_isSo 121 = .ok (.iconst 0, 1) := by decide +kernel
theorem dL_isSo_122 : decode cL_isSo 122 = .ok (.istore_n 3, 1) := by decide +kernel
theorem dL_isSo_123 : decode cL_isSo 123 = .ok (.goto 149, 3) := by decide +kernel
theorem dL_isSo_126 : decode cL_isSo 126 = .ok (.aload_n 0, 1) := by decide +kernel
theorem dL_isSo_127 : decode cL_isSo 127 = .ok (.iload 5, 2) := by decide +kernel
theorem dL_isSo_129 : decode cL_isSo 129 = .ok (.invokestatic 244, 3) := by decide +kernel
theorem dL_isSo_132 : decode cL_isSo 132 = .ok (.ldc 21, 2) := by decide +kernel
theorem dL_isSo_134 : decode cL_isSo 134 = .ok (.if_icmp .ne 136, 3) := by decide +kernel
theorem dL_isSo_137 : decode cL_isSo 137 = .ok (.aload_n 0, 1) := by decide +kernel
theorem dL_isSo_138 : decode cL_isSo 138 = .ok (.iload 5, 2) := by decide +kernel
theorem dL_isSo_140 : decode cL_isSo 140 = .ok (.iconst 0, 1) := by decide +kernel
theorem dL_isSo_141 : decode cL_isSo 141 = .ok (.invokestatic 246, 3) := by decide +kernel
theorem dL_isSo_144 : decode cL_isSo 144 = .ok (.ldc 21, 2) := by decide +kernel
theorem dL_isSo_146 : decode cL_isSo 146 = .ok (.if_icmp .ne 124, 3) := by decide +kernel
theorem dL_isSo_149 : decode cL_isSo 149 = .ok (.aload_n 0, 1) := by decide +kernel
theorem dL_isSo_150 : decode cL_isSo 150 = .ok (.iload 5, 2) := by decide +kernel
theorem dL_isSo_152 : decode cL_isSo 152 = .ok (.invokestatic 248, 3) := by decide +kernel
theorem dL_isSo_155 : decode cL_isSo 155 = .ok (.ldc 21, 2) := by decide +kernel
theorem dL_isSo_157 : decode cL_isSo 157 = .ok (.if_icmp .ne 113, 3) := by decide +kernel
theorem dL_isSo_160 : decode cL_isSo 160 = .ok (.aload_n 0, 1) := by decide +kernel
theorem dL_isSo_161 : decode cL_isSo 161 = .ok (.iload 5, 2) := by decide +kernel
theorem dL_isSo_163 : decode cL_isSo 163 = .ok (.invokestatic 250, 3) := by decide +kernel
theorem dL_isSo_166 : decode cL_isSo 166 = .ok (.ldc 21, 2) := by decide +kernel
theorem dL_isSo_168 : decode cL_isSo 168 = .ok (.if_icmp .ne 102, 3) := by decide +kernel
theorem dL_isSo_171 : decode cL_isSo 171 = .ok (.aload_n 0, 1) := by decide +kernel
theorem dL_isSo_172 : decode cL_isSo 172 = .ok (.iload 5, 2) := by decide +kernel
theorem dL_isSo_174 : decode cL_isSo 174 = .ok (.iconst 0, 1) := by decide +kernel
theorem dL_isSo_175 : decode cL_isSo 175 = .ok (.invokestatic 252, 3) := by decide +kernel
theorem dL_isSo_178 : decode cL_isSo 178 = .ok (.ldc 21, 2) := by decide +kernel
theorem dL_isSo_180 : decode cL_isSo 180 = .ok (.if_icmp .ne 90, 3) := by decide +kernel
theorem dL_isSo_183 : decode cL_isSo 183 = .ok (.aload_n 0, 1) := by decide +kernel
theorem dL_isSo_184 : decode cL_isSo 184 = .ok (.iload 5, 2) := by decide +kernel
theorem dL_isSo_186 : decode cL_isSo 186 = .ok (.iconst 0, 1) := by decide +kernel
theorem dL_isSo_187 : decode cL_isSo 187 = .ok (.invokestatic 260, 3) := by decide +kernel
theorem dL_isSo_190 : decode cL_isSo 190 = .ok (.ldc 21, 2) := by decide +kernel
theorem dL_isSo_192 : decode cL_isSo 192 = .ok (.if_icmp .ne 78, 3) := by decide +kernel
theorem dL_isSo_195 : decode cL_isSo 195 = .ok (.aload_n 0, 1) := by decide +kernel
theorem dL_isSo_196 : decode cL_isSo 196 = .ok (.iload 5, 2) := by decide +kernel
theorem dL_isSo_198 : decode cL_isSo 198 = .ok (.invokestatic 264, 3) := by decide +kernel
theorem dL_isSo_201 : decode cL_isSo 201 = .ok (.ldc 21, 2) := by decide +kernel
theorem dL_isSo_203 : decode cL_isSo 203 = .ok (.if_icmp .ne 67, 3) := by decide +kernel
theorem dL_isSo_206 : decode cL_isSo 206 = .ok (.aload_n 0, 1) := by decide +kernel
theorem dL_isSo_207 : decode cL_isSo 207 = .ok (.iload 5, 2) := by decide +kernel
theorem dL_isSo_209 : decode cL_isSo 209 = .ok (.iconst 0, 1) := by decide +kernel
theorem dL_isSo_210 : decode cL_isSo 210 = .ok (.invokestatic 256, 3) := by decide +kernel
theorem dL_isSo_213 : decode cL_isSo 213 = .ok (.ldc 21, 2) := by decide +kernel
theorem dL_isSo_215 : decode cL_isSo 215 = .ok (.if_icmp .ne 55, 3) := by decide +kernel
theorem dL_isSo_218 : decode cL_isSo 218 = .ok (.aload_n 0, 1) := by decide +kernel
theorem dL_isSo_219 : decode cL_isSo 219 = .ok (.iload 5, 2) := by decide +kernel
theorem dL_isSo_221 : decode cL_isSo 221 = .ok (.invokestatic 266, 3) := by decide +kernel
theorem dL_isSo_224 : decode cL_isSo 224 = .ok (.ldc 21, 2) := by decide +kernel
theorem dL_isSo_226 : decode cL_isSo 226 = .ok (.if_icmp .ne 44, 3) := by decide +kernel
theorem dL_isSo_229 : decode cL_isSo 229 = .ok (.aload_n 0, 1) := by decide +kernel
theorem dL_isSo_230 : decode cL_isSo 230 = .ok (.iload 5, 2) := by decide +kernel
theorem dL_isSo_232 : decode cL_isSo 232 = .ok (.invokestatic 262, 3) := by decide +kernel
theorem dL_isSo_235 : decode cL_isSo 235 = .ok (.ldc 21, 2) := by decide +kernel
theorem dL_isSo_237 : decode cL_isSo 237 = .ok (.if_icmp .ne 33, 3) := by decide +kernel
theorem dL_isSo_240 : decode cL_isSo 240 = .ok (.aload_n 0, 1) := by decide +kernel
theorem dL_isSo_241 : decode cL_isSo 241 = .ok (.iload 5, 2) := by decide +kernel
theorem dL_isSo_243 : decode cL_isSo 243 = .ok (.iconst 0, 1) := by decide +kernel
theorem dL_isSo_244 : decode cL_isSo 244 = .ok (.iconst 1, 1) := by decide +kernel
theorem dL_isSo_245 : decode cL_isSo 245 = .ok (.iconst 1, 1) := by decide +kernel
theorem dL_isSo_246 : decode cL_isSo 246 = .ok (.invokestatic 268, 3) := by decide +kernel
theorem dL_isSo_249 : decode cL_isSo 249 = .ok (.ldc 21, 2) := by decide +kernel
theorem dL_isSo_251 : decode cL_isSo 251 = .ok (.if_icmp .ne 19, 3) := by decide +kernel
theorem dL_isSo_254 : decode cL_isSo 254 = .ok (.aload_n 0, 1) := by decide +kernel
theorem dL_isSo_255 : decode cL_isSo 255 = .ok (.iload 5, 2) := by decide +kernel
theorem dL_isSo_257 : decode cL_isSo 257 = .ok (.iconst 0, 1) := by decide +kernel
theorem dL_isSo_258 : decode cL_isSo 258 = .ok (.invokestatic 234, 3) := by decide +kernel
theorem dL_isSo_261 : decode cL_isSo 261 = .ok (.ldc 21, 2) := by decide +kernel
theorem dL_isSo_263 : decode cL_isSo 263 = .ok (.if_icmp .ne 7, 3) := by decide +kernel
theorem dL_isSo_266 : decode cL_isSo 266 = .ok (.iconst 1, 1) := by decide +kernel
theorem dL_isSo_267 : decode cL_isSo 267 = .ok (.goto 4, 3) := by decide +kernel
theorem dL_isSo_270 : decode cL_isSo 270 = .ok (.iconst 0, 1) := by decide +kernel
theorem dL_isSo_271 : decode cL_isSo 271 = .ok (.istore_n 3, 1) := by decide +kernel
theorem dL_isSo_272 : decode cL_isSo 272 = .ok (.iinc 5 1, 3) := by decide +kernel
theorem dL_isSo_275 : decode cL_isSo 275 = .ok (.goto (-241), 3) := by decide +kernel
theorem dL_isSo_278 : decode cL_isSo 278 = .ok (.iload_n 3, 1) := by decide +kernel
theorem dL_isSo_279 : decode cL_isSo 279 = .ok (.ifCond .eq 61, 3) := by decide +kernel
theorem dL_isSo_282 : decode cL_isSo 282 = .ok (.aload_n 0, 1) := by decide +kernel
theorem dL_isSo_283 : decode cL_isSo 283 = .ok (.iconst 4, 1) := by decide +kernel
theorem dL_isSo_284 : decode cL_isSo 284 = .ok (.invokestatic 208, 3) := by decide +kernel
theorem dL_isSo_287 : decode cL_isSo 287 = .ok (.ldc 18, 2) := by decide +kernel
theorem dL_isSo_289 : decode cL_isSo 289 = .ok (.if_icmp .ne 51, 3) := by decide +kernel
theorem dL_isSo_292 : decode cL_isSo 292 = .ok (.aload_n 0, 1) := by decide +kernel
theorem dL_isSo_293 : decode cL_isSo 293 = .ok (.iconst (-1), 1) := by decide +kernel
theorem dL_isSo_294 : decode cL_isSo 294 = .ok (.invokestatic 244, 3) := by decide +kernel
theorem dL_isSo_297 : decode cL_isSo 297 = .ok (.ldc 18, 2) := by decide +kernel
theorem dL_isSo_299 : decode cL_isSo 299 = .ok (.if_icmp .ne 41, 3) := by decide +kernel
theorem dL_isSo_302 : decode cL_isSo 302 = .ok (.aload_n 0, 1) := by decide +kernel
theorem dL_isSo_303 : decode cL_isSo 303 = .ok (.iconst 4, 1) := by decide +kernel
theorem dL_isSo_304 : decode cL_isSo 304 = .ok (.invokestatic 250, 3) := by decide +kernel
theorem dL_isSo_307 : decode cL_isSo 307 = .ok (.ldc 18, 2) := by decide +kernel
theorem dL_isSo_309 : decode cL_isSo 309 = .ok (.if_icmp .ne 31, 3) := by decide +kernel
theorem dL_isSo_312 : decode cL_isSo 312 = .ok (.aload_n 0, 1) := by decide +kernel
theorem dL_isSo_313 : decode cL_isSo 313 = .ok (.iconst 4, 1) := by decide +kernel
theorem dL_isSo_314 : decode cL_isSo 314 = .ok (.iconst 0, 1) := by decide +kernel
theorem dL_isSo_315 : decode cL_isSo 315 = .ok (.invokestatic 254, 3) := by decide +kernel
theorem dL_isSo_318 : decode cL_isSo 318 = .ok (.ldc 18, 2) := by decide +kernel
theorem dL_isSo_320 : decode cL_isSo 320 = .ok (.if_icmp .ne 20, 3) := by decide +kernel
theorem dL_isSo_323 : decode cL_isSo 323 = .ok (.aload_n 0, 1) := by decide +kernel
theorem dL_isSo_324 : decode cL_isSo 324 = .ok (.iconst 4, 1) := by decide +kernel
theorem dL_isSo_325 : decode cL_isSo 325 = .ok (.iconst 0, 1) := by decide +kernel
theorem dL_isSo_326 : decode cL_isSo 326 = .ok (.iconst 1, 1) := by decide +kernel
theorem dL_isSo_327 : decode cL_isSo 327 = .ok (.iconst 1, 1) := by decide +kernel
theorem dL_isSo_328 : decode cL_isSo 328 = .ok (.invokestatic 268, 3) := by decide +kernel
theorem dL_isSo_331 : decode cL_isSo 331 = .ok (.ldc 18, 2) := by decide +kernel
theorem dL_isSo_333 : decode cL_isSo 333 = .ok (.if_icmp .ne 7, 3) := by decide +kernel
theorem dL_isSo_336 : decode cL_isSo 336 = .ok (.iconst 1, 1) := by decide +kernel
theorem dL_isSo_337 : decode cL_isSo 337 = .ok (.goto 4, 3) := by decide +kernel
theorem dL_isSo_340 : decode cL_isSo 340 = .ok (.iconst 0, 1) := by decide +kernel
theorem dL_isSo_341 : decode cL_isSo 341 = .ok (.ireturn, 1) := by decide +kernel
theorem dL_fills_0 : decode cL_fills 0 = .ok (.iconst 1, 1) := by decide +kernel
theorem dL_fills_1 : decode cL_fills 1 = .ok (.istore 6, 2) := by decide +kernel
theorem dL_fills_3 : decode cL_fills 3 = .ok (.aload_n 0, 1) := by decide +kernel
theorem dL_fills_4 : decode cL_fills 4 = .ok (.iload_n 2, 1) := by decide +kernel
theorem dL_fills_5 : decode cL_fills 5 = .ok (.iload_n 3, 1) := by decide +kernel
theorem dL_fills_6 : decode cL_fills 6 = .ok (.invokestatic 289, 3) := by decide +kernel
theorem dL_fills_9 : decode cL_fills 9 = .ok (.istore 7, 2) := by decide +kernel
theorem dL_fills_11 : decode cL_fills 11 = .ok (.aload_n 0, 1) := by decide +kernel
theorem dL_fills_12 : decode cL_fills 12 = .ok (.iload_n 2, 1) := by decide +kernel
theorem dL_fills_13 : decode cL_fills 13 = .ok (.iload_n 3, 1) := by decide +kernel
theorem dL_fills_14 : decode cL_fills 14 = .ok (.invokestatic 236, 3) := by decide +kernel
theorem dL_fills_17 : decode cL_fills 17 = .ok (.istore 8, 2) := by decide +kernel
theorem dL_fills_19 : decode cL_fills 19 = .ok (.iload 4, 2) := by decide +kernel
theorem dL_fills_21 : decode cL_fills 21 = .ok (.istore 9, 2) := by decide +kernel
theorem dL_fills_23 : decode cL_fills 23 = .ok (.iconst 0, 1) := by decide +kernel
theorem dL_fills_24 : decode cL_fills 24 = .ok (.istore 10, 2) := by decide +kernel
theorem dL_fills_26 : decode cL_fills 26 = .ok (.iload 10, 2) := by decide +kernel
theorem dL_fills_28 : decode cL_fills 28 = .ok (.bipush 24, 2) := by decide +kernel
theorem dL_fills_30 : decode cL_fills 30 = .ok (.if_icmp .ge 120, 3) := by decide +kernel
theorem dL_fills_33 : decode cL_fills 33 = .ok (.iload 6, 2) := by decide +kernel
theorem dL_fills_35 : decode cL_fills 35 = .ok (.ifCond .eq 115, 3) := by decide +kernel
theorem dL_fills_38 : decode cL_fills 38 = .ok (.iload 9, 2) := by decide +kernel
theorem dL_fills_40 : decode cL_fills 40 = .ok (.bipush 6, 2) := by decide +kernel
theorem dL_fills_42 : decode cL_fills 42 = .ok (.if_icmp .ge 108, 3) := by decide +kernel
theorem dL_fills_45 : decode cL_fills 45 = .ok (.iload 8, 2) := by decide +kernel
theorem dL_fills_47 : decode cL_fills 47 = .ok (.bipush 16, 2) := by decide +kernel
theorem dL_fills_49 : decode cL_fills 49 = .ok (.if_icmp .ge 101, 3) := by decide +kernel
theorem dL_fills_52 : decode cL_fills 52 = .ok (.bipush 96, 2) := by decide +kernel
theorem dL_fills_54 : decode cL_fills 54 = .ok (.iload 9, 2) := by decide +kernel
theorem dL_fills_56 : decode cL_fills 56 = .ok (.ishr, 1) := by decide +kernel
theorem dL_fills_57 : decode cL_fills 57 = .ok (.istore 11, 2) := by decide +kernel
theorem dL_fills_59 : decode cL_fills 59 = .ok (.iload 7, 2) := by decide +kernel
theorem dL_fills_61 : decode cL_fills 61 = .ok (.iload 11, 2) := by decide +kernel
theorem dL_fills_63 : decode cL_fills 63 = .ok (.if_icmp .ge 9, 3) := by decide +kernel
theorem dL_fills_66 : decode cL_fills 66 = .ok (.iinc 9 1, 3) := by decide +kernel
theorem dL_fills_69 : decode cL_fills 69 = .ok (.goto 75, 3) := by decide +kernel
theorem dL_fills_72 : decode cL_fills 72 = .ok (.iload 7, 2) := by decide +kernel
theorem dL_fills_74 : decode cL_fills 74 = .ok (.iload 11, 2) := by decide +kernel
theorem dL_fills_76 : decode cL_fills 76 = .ok (.isub, 1) := by decide +kernel
theorem dL_fills_77 : decode cL_fills 77 = .ok (.istore 7, 2) := by decide +kernel
theorem dL_fills_79 : decode cL_fills 79 = .ok (.aload_n 0, 1) := by decide +kernel
theorem dL_fills_80 : decode cL_fills 80 = .ok (.iload_n 2, 1) := by decide +kernel
theorem dL_fills_81 : decode cL_fills 81 = .ok (.iload_n 3, 1) := by decide +kernel
theorem dL_fills_82 : decode cL_fills 82 = .ok (.iload 8, 2) := by decide +kernel
theorem dL_fills_84 : decode cL_fills 84 = .ok (.iload 5, 2) := by decide +kernel
theorem dL_fills_86 : decode cL_fills 86 = .ok (.iload 9, 2) := by decide +kernel
theorem dL_fills_88 : decode cL_fills 88 = .ok (.iconst 0, 1) := by decide +kernel
theorem dL_fills_89 : decode cL_fills 89 = .ok (.invokestatic 291, 3) := by decide +kernel
theorem dL_fills_92 : decode cL_fills 92 = .ok (.iload 7, 2) := by decide +kernel
theorem dL_fills_94 : decode cL_fills 94 = .ok (.if_icmp .ne 44, 3) := by decide +kernel
theorem dL_fills_97 : decode cL_fills 97 = .ok (.aload_n 0, 1) := by decide +kernel
theorem dL_fills_98 : decode cL_fills 98 = .ok (.iload_n 2, 1) := by decide +kernel
theorem dL_fills_99 : decode cL_fills 99 = .ok (.iload_n 3, 1) := by decide +kernel
theorem dL_fills_100 : decode cL_fills 100 = .ok (.invokestatic 289, 3) := by decide +kernel
theorem dL_fills_103 : decode cL_fills 103 = .ok (.iload 7, 2) := by decide +kernel
theorem dL_fills_105 : decode cL_fills 105 = .ok (.if_icmp .ne 33, 3) := by decide +kernel
theorem dL_fills_108 : decode cL_fills 108 = .ok (.aload_n 0, 1) := by decide +kernel
theorem dL_fills_109 : decode cL_fills 109 = .ok (.iload_n 2, 1) := by decide +kernel
theorem dL_fills_110 : decode cL_fills 110 = .ok (.iload_n 3, 1) := by decide +kernel
theorem dL_fills_111 : decode cL_fills 111 = .ok (.iload 8, 2) := by decide +kernel
theorem dL_fills_113 : decode cL_fills 113 = .ok (.invokestatic 294, 3) := by decide +kernel
theorem dL_fills_116 : decode cL_fills 116 = .ok (.iload 5, 2) := by decide +kernel
theorem dL_fills_118 : decode cL_fills 118 = .ok (.ifCond .ne 7, 3) := by decide +kernel
theorem dL_fills_121 : decode cL_fills 121 = .ok (.iconst (-1), 1) := by decide +kernel
theorem dL_fills_122 : decode cL_fills 122 = .ok (.goto 9, 3) := by decide +kernel
theorem dL_fills_125 : decode cL_fills 125 = .ok (.iload 5, 2) := by decide +kernel
theorem dL_fills_127 : decode cL_fills 127 = .ok (.aload_n 1, 1) := by decide +kernel
theorem dL_fills_128 : decode cL_fills 128 = .ok (.iload_n 2, 1) := by decide +kernel
theorem dL_fills_129 : decode cL_fills 129 = .ok (.iaload, 1) := by decide +kernel
theorem dL_fills_130 : decode cL_fills 130 = .ok (.iadd, 1) := by decide +kernel
theorem dL_fills_131 : decode cL_fills 131 = .ok (.if_icmp .ne 7, 3) := by decide +kernel
theorem dL_fills_134 : decode cL_fills 134 = .ok (.iconst 1, 1) := by decide +kernel
theorem dL_fills_135 : decode cL_fills 135 = .ok (.goto 4, 3) := by decide +kernel
theorem dL_fills_138 : decode cL_fills 138 = .ok (.iconst 0, 1) := by decide +kernel
theorem dL_fills_139 : decode cL_fills 139 = .ok (.istore 6, 2) := by decide +kernel
theorem dL_fills_141 : decode cL_fills 141 = .ok (.iinc 8 1, 3) := by decide +kernel
theorem dL_fills_144 : decode cL_fills 144 = .ok (.iinc 10 1, 3) := by decide +kernel
theorem dL_fills_147 : decode cL_fills 147 = .ok (.goto (-121), 3) := by decide +kernel
theorem dL_fills_150 : decode cL_fills 150 = .ok (.iload 6, 2) := by decide +kernel
theorem dL_fills_152 : decode cL_fills 152 = .ok (.ifCond .eq 18, 3) := by decide +kernel
theorem dL_fills_155 : decode cL_fills 155 = .ok (.aload_n 0, 1) := by decide +kernel
theorem dL_fills_156 : decode cL_fills 156 = .ok (.iload_n 2, 1) := by decide +kernel
theorem dL_fills_157 : decode cL_fills 157 = .ok (.iload_n 3, 1) := by decide +kernel
theorem dL_fills_158 : decode cL_fills 158 = .ok (.invokestatic 236, 3) := by decide +kernel
theorem dL_fills_161 : decode cL_fills 161 = .ok (.iload 8, 2) := by decide +kernel
theorem dL_fills_163 : decode cL_fills 163 = .ok (.if_icmp .ne 7, 3) := by decide +kernel
theorem dL_fills_166 : decode cL_fills 166 = .ok (.iconst 1, 1) := by decide +kernel
theorem dL_fills_167 : decode cL_fills 167 = .ok (.goto 4, 3) := by decide +kernel
theorem dL_fills_170 : decode cL_fills 170 = .ok (.iconst 0, 1) := by decide +kernel
theorem dL_fills_171 : decode cL_fills 171 = .ok (.ireturn, 1) := by decide +kernel
theorem dL_edits_0 : decode cL_edits 0 = .ok (.iload_n 3, 1) := by decide +kernel
theorem dL_edits_1 : decode cL_edits 1 = .ok (.iconst 4, 1) := by decide +kernel
theorem dL_edits_2 : decode cL_edits 2 = .ok (.invokestatic 213, 3) := by decide +kernel
theorem dL_edits_5 : decode cL_edits 5 = .ok (.istore 5, 2) := by decide +kernel
theorem dL_edits_7 : decode cL_edits 7 = .ok (.iload_n 3, 1) := by decide +kernel
theorem dL_edits_8 : decode cL_edits 8 = .ok (.iconst 2, 1) := by decide +kernel
theorem dL_edits_9 : decode cL_edits 9 = .ok (.ishr, 1) := by decide +kernel
theorem dL_edits_10 : decode cL_edits 10 = .ok (.aload_n 1, 1) := by decide +kernel
theorem dL_edits_11 : decode cL_edits 11 = .ok (.iconst 0, 1) := by decide +kernel
theorem dL_edits_12 : decode cL_edits 12 = .ok (.iaload, 1) := by decide +kernel
theorem dL_edits_13 : decode cL_edits 13 = .ok (.invokestatic 213, 3) := by decide +kernel
theorem dL_edits_16 : decode cL_edits 16 = .ok (.istore 6, 2) := by decide +kernel
theorem dL_edits_18 : decode cL_edits 18 = .ok (.aload_n 0, 1) := by decide +kernel
theorem dL_edits_19 : decode cL_edits 19 = .ok (.iload 5, 2) := by decide +kernel
theorem dL_edits_21 : decode cL_edits 21 = .ok (.iload 6, 2) := by decide +kernel
theorem dL_edits_23 : decode cL_edits 23 = .ok (.invokestatic 236, 3) := by decide +kernel
theorem dL_edits_26 : decode cL_edits 26 = .ok (.istore 7, 2) := by decide +kernel
theorem dL_edits_28 : decode cL_edits 28 = .ok (.aload_n 0, 1) := by decide +kernel
theorem dL_edits_29 : decode cL_edits 29 = .ok (.iload 5, 2) := by decide +kernel
theorem dL_edits_31 : decode cL_edits 31 = .ok (.iload 6, 2) := by decide +kernel
theorem dL_edits_33 : decode cL_edits 33 = .ok (.invokestatic 289, 3) := by decide +kernel
theorem dL_edits_36 : decode cL_edits 36 = .ok (.istore 8, 2) := by decide +kernel
theorem dL_edits_38 : decode cL_edits 38 = .ok (.iload 4, 2) := by decide +kernel
theorem dL_edits_40 : decode cL_edits 40 = .ok (.bipush 6, 2) := by decide +kernel
theorem dL_edits_42 : decode cL_edits 42 = .ok (.invokestatic 213, 3) := by decide +kernel
theorem dL_edits_45 : decode cL_edits 45 = .ok (.istore 9, 2) := by decide +kernel
theorem dL_edits_47 : decode cL_edits 47 = .ok (.iload 4, 2) := by decide +kernel
theorem dL_edits_49 : decode cL_edits 49 = .ok (.iconst 3, 1) := by decide +kernel
theorem dL_edits_50 : decode cL_edits 50 = .ok (.ishr, 1) := by decide +kernel
theorem dL_edits_51 : decode cL_edits 51 = .ok (.iconst 3, 1) := by decide +kernel
theorem dL_edits_52 : decode cL_edits 52 = .ok (.invokestatic 213, 3) := by decide +kernel
theorem dL_edits_55 : decode cL_edits 55 = .ok (.istore 10, 2) := by decide +kernel
theorem dL_edits_57 : decode cL_edits 57 = .ok (.iload 4, 2) := by decide +kernel
theorem dL_edits_59 : decode cL_edits 59 = .ok (.iconst 5, 1) := by decide +kernel
theorem dL_edits_60 : decode cL_edits 60 = .ok (.ishr, 1) := by decide +kernel
theorem dL_edits_61 : decode cL_edits 61 = .ok (.iconst 4, 1) := by decide +kernel
theorem dL_edits_62 : decode cL_edits 62 = .ok (.invokestatic 213, 3) := by decide +kernel
theorem dL_edits_65 : decode cL_edits 65 = .ok (.ifCond .ne 7, 3) := by decide +kernel
theorem dL_edits_68 : decode cL_edits 68 = .ok (.iconst 0, 1) := by decide +kernel
theorem dL_edits_69 : decode cL_edits 69 = .ok (.goto 15, 3) := by decide +kernel
theorem dL_edits_72 : decode cL_edits 72 = .ok (.bipush 40, 2) := by decide +kernel
theorem dL_edits_74 : decode cL_edits 74 = .ok (.iload 4, 2) := by decide +kernel
theorem dL_edits_76 : decode cL_edits 76 = .ok (.bipush 7, 2) := by decide +kernel
theorem dL_edits_78 : decode cL_edits 78 = .ok (.ishr, 1) := by decide +kernel
theorem dL_edits_79 : decode cL_edits 79 = .ok (.iconst 3, 1) := by decide +kernel
theorem dL_edits_80 : decode cL_edits 80 = .ok (.invokestatic 213, 3) := by decide +kernel
theorem dL_edits_83 : decode cL_edits 83 = .ok (.iadd, 1) := by decide +kernel
theorem dL_edits_84 : decode cL_edits 84 = .ok (.istore 11, 2) := by decide +kernel
theorem dL_edits_86 : decode cL_edits 86 = .ok (.iload_n 3, 1) := by decide +kernel
theorem dL_edits_87 : decode cL_edits 87 = .ok (.bipush 7, 2) := by decide +kernel
theorem dL_edits_89 : decode cL_edits 89 = .ok (.ishr, 1) := by decide +kernel
theorem dL_edits_90 : decode cL_edits 90 = .ok (.iconst 2, 1) := by decide +kernel
theorem dL_edits_91 : decode cL_edits 91 = .ok (.invokestatic 213, 3) := by decide +kernel
theorem dL_edits_94 : decode cL_edits 94 = .ok (.ifCond .ne 23, 3) := by decide +kernel
theorem dL_edits_97 : decode cL_edits 97 = .ok (.aload_n 0, 1) := by decide +kernel
theorem dL_edits_98 : decode cL_edits 98 = .ok (.aload_n 2, 1) := by decide +kernel
theorem dL_edits_99 : decode cL_edits 99 = .ok (.iload 5, 2) := by decide +kernel
theorem dL_edits_101 : decode cL_edits 101 = .ok (.iload 6, 2) := by decide +kernel
theorem dL_edits_103 : decode cL_edits 103 = .ok (.iconst 1, 1) := by decide +kernel
theorem dL_edits_104 : decode cL_edits 104 = .ok (.iload 4, 2) := by decide +kernel
theorem dL_edits_106 : decode cL_edits 106 = .ok (.iconst 3, 1) := by decide +kernel
theorem dL_edits_107 : decode cL_edits 107 = .ok (.invokestatic 213, 3) := by decide +kernel
theorem dL_edits_110 : decode cL_edits 110 = .ok (.iadd, 1) := by decide +kernel
theorem dL_edits_111 : decode cL_edits 111 = .ok (.iload 11, 2) := by decide +kernel
theorem dL_edits_113 : decode cL_edits 113 = .ok (.invokestatic 297, 3) := by decide +kernel
theorem dL_edits_116 : decode cL_edits 116 = .ok (.ireturn, 1) := by decide +kernel
theorem dL_edits_117 : decode cL_edits 117 = .ok (.iload_n 3, 1) := by decide +kernel
theorem dL_edits_118 : decode cL_edits 118 = .ok (.bipush 9, 2) := by decide +kernel
theorem dL_edits_120 : decode cL_edits 120 = .ok (.ishr, 1) := by decide +kernel
theorem dL_edits_121 : decode cL_edits 121 = .ok (.iconst 4, 1) := by decide +kernel
theorem dL_edits_122 : decode cL_edits 122 = .ok (.invokestatic 213, 3) := by decide +kernel
theorem dL_edits_125 : decode cL_edits 125 = .ok (.ifCond .ne 101, 3) := by decide +kernel
theorem dL_edits_128 : decode cL_edits 128 = .ok (.iload 7, 2) := by decide +kernel
theorem dL_edits_130 : decode cL_edits 130 = .ok (.ifCond .le 96, 3) := by decide +kernel
theorem dL_edits_133 : decode cL_edits 133 = .ok (.iload 4, 2) := by decide +kernel
theorem dL_edits_135 : decode cL_edits 135 = .ok (.iload 7, 2) := by decide +kernel
theorem dL_edits_137 : decode cL_edits 137 = .ok (.invokestatic 213, 3) := by decide +kernel
theorem dL_edits_140 : decode cL_edits 140 = .ok (.istore 12, 2) := by decide +kernel
theorem dL_edits_142 : decode cL_edits 142 = .ok (.aload_n 0, 1) := by decide +kernel
theorem dL_edits_143 : decode cL_edits 143 = .ok (.iload 5, 2) := by decide +kernel
theorem dL_edits_145 : decode cL_edits 145 = .ok (.iload 6, 2) := by decide +kernel
theorem dL_edits_147 : decode cL_edits 147 = .ok (.iload 12, 2) := by decide +kernel
theorem dL_edits_149 : decode cL_edits 149 = .ok (.invokestatic 301, 3) := by decide +kernel
theorem dL_edits_152 : decode cL_edits 152 = .ok (.istore 13, 2) := by decide +kernel
theorem dL_edits_154 : decode cL_edits 154 = .ok (.iload 13, 2) := by decide +kernel
theorem dL_edits_156 : decode cL_edits 156 = .ok (.ifCond .le 68, 3) := by decide +kernel
theorem dL_edits_159 : decode cL_edits 159 = .ok (.aload_n 0, 1) := by decide +kernel
theorem dL_edits_160 : decode cL_edits 160 = .ok (.iload 5, 2) := by decide +kernel
theorem dL_edits_162 : decode cL_edits 162 = .ok (.iload 6, 2) := by decide +kernel
theorem dL_edits_164 : decode cL_edits 164 = .ok (.invokestatic 236, 3) := by decide +kernel
theorem dL_edits_167 : decode cL_edits 167 = .ok (.iload 7, 2) := by decide +kernel
theorem dL_edits_169 : decode cL_edits 169 = .ok (.iconst 1, 1) := by decide +kernel
theorem dL_edits_170 : decode cL_edits 170 = .ok (.isub, 1) := by decide +kernel
theorem dL_edits_171 : decode cL_edits 171 = .ok (.if_icmp .ne 53, 3) := by decide +kernel
theorem dL_edits_174 : decode cL_edits 174 = .ok (.aload_n 0, 1) := by decide +kernel
theorem dL_edits_175 : decode cL_edits 175 = .ok (.iload 5, 2) := by decide +kernel
theorem dL_edits_177 : decode cL_edits 177 = .ok (.iload 6, 2) := by decide +kernel
theorem dL_edits_179 : decode cL_edits 179 = .ok (.invokestatic 289, 3) := by decide +kernel
theorem dL_edits_182 : decode cL_edits 182 = .ok (.iload 8, 2) := by decide +kernel
theorem dL_edits_184 : decode cL_edits 184 = .ok (.iload 13, 2) := by decide +kernel
theorem dL_edits_186 : decode cL_edits 186 = .ok (.iadd, 1) := by decide +kernel
theorem dL_edits_187 : decode cL_edits 187 = .ok (.if_icmp .ne 37, 3) := by decide +kernel
theorem dL_edits_190 : decode cL_edits 190 = .ok (.aload_n 0, 1) := by decide +kernel
theorem dL_edits_191 : decode cL_edits 191 = .ok (.iconst 4, 1) := by decide +kernel
theorem dL_edits_192 : decode cL_edits 192 = .ok (.iload 6, 2) := by decide +kernel
theorem dL_edits_194 : decode cL_edits 194 = .ok (.iconst 0, 1) := by decide +kernel
theorem dL_edits_195 : decode cL_edits 195 = .ok (.invokestatic 301, 3) := by decide +kernel
theorem dL_edits_198 : decode cL_edits 198 = .ok (.ldc 18, 2) := by decide +kernel
theorem dL_edits_200 : decode cL_edits 200 = .ok (.if_icmp .ne 24, 3) := by decide +kernel
theorem dL_edits_203 : decode cL_edits 203 = .ok (.aload_n 0, 1) := by decide +kernel
theorem dL_edits_204 : decode cL_edits 204 = .ok (.iload 5, 2) := by decide +kernel
theorem dL_edits_206 : decode cL_edits 206 = .ok (.iload 6, 2) := by decide +kernel
theorem dL_edits_208 : decode cL_edits 208 = .ok (.iload 7, 2) := by decide +kernel
theorem dL_edits_210 : decode cL_edits 210 = .ok (.iconst 1, 1) := by decide +kernel
theorem dL_edits_211 : decode cL_edits 211 = .ok (.isub, 1) := by decide +kernel
theorem dL_edits_212 : decode cL_edits 212 = .ok (.invokestatic 301, 3) := by decide +kernel
theorem dL_edits_215 : decode cL_edits 215 = .ok (.ldc 28, 2) := by decide +kernel
theorem dL_edits_217 : decode cL_edits 217 = .ok (.if_icmp .ne 7, 3) := by decide +kernel
theorem dL_edits_220 : decode cL_edits 220 = .ok (.iconst 1, 1) := by decide +kernel
theorem dL_edits_221 : decode cL_edits 221 = .ok (.goto 4, 3) := by decide +kernel
theorem dL_edits_224 : decode cL_edits 224 = .ok (.iconst 0, 1) := by decide +kernel
theorem dL_edits_225 : decode cL_edits 225 = .ok (.ireturn, 1) := by decide +kernel
theorem dL_edits_226 : decode cL_edits 226 = .ok (.iload_n 3, 1) := by decide +kernel
theorem dL_edits_227 : decode cL_edits 227 = .ok (.bipush 11, 2) := by decide +kernel
theorem dL_edits_229 : decode cL_edits 229 = .ok (.ishr, 1) := by decide +kernel
theorem dL_edits_230 : decode cL_edits 230 = .ok (.iconst 2, 1) := by decide +kernel
theorem dL_edits_231 : decode cL_edits 231 = .ok (.invokestatic 213, 3) := by decide +kernel
theorem dL_edits_234 : decode cL_edits 234 = .ok (.ifCond .ne 328, 3) := by decide +kernel
theorem dL_edits_237 : decode cL_edits 237 = .ok (.iload 7, 2) := by decide +kernel
theorem dL_edits_239 : decode cL_edits 239 = .ok (.ifCond .le 323, 3) := by decide +kernel
theorem dL_edits_242 : decode cL_edits 242 = .ok (.iload 4, 2) := by decide +kernel
theorem dL_edits_244 : decode cL_edits 244 = .ok (.iload 7, 2) := by decide +kernel
theorem dL_edits_246 : decode cL_edits 246 = .ok (.invokestatic 213, 3) := by decide +kernel
theorem dL_edits_249 : decode cL_edits 249 = .ok (.istore 12, 2) := by decide +kernel
theorem dL_edits_251 : decode cL_edits 251 = .ok (.aload_n 0, 1) := by decide +kernel
theorem dL_edits_252 : decode cL_edits 252 = .ok (.iload 5, 2) := by decide +kernel
theorem dL_edits_254 : decode cL_edits 254 = .ok (.iload 6, 2) := by decide +kernel
theorem dL_edits_256 : decode cL_edits 256 = .ok (.iload 12, 2) := by decide +kernel
theorem dL_edits_258 : decode cL_edits 258 = .ok (.invokestatic 294, 3) := by decide +kernel
theorem dL_edits_261 : decode cL_edits 261 = .ok (.istore 13, 2) := by decide +kernel
theorem dL_edits_263 : decode cL_edits 263 = .ok (.iload 4, 2) := by decide +kernel
theorem dL_edits_265 : decode cL_edits 265 = .ok (.bipush 9, 2) := by decide +kernel
theorem dL_edits_267 : decode cL_edits 267 = .ok (.ishr, 1) := by decide +kernel
theorem dL_edits_268 : decode cL_edits 268 = .ok (.bipush 7, 2) := by decide +kernel
theorem dL_edits_270 : decode cL_edits 270 = .ok (.invokestatic 213, 3) := by decide +kernel
theorem dL_edits_273 : decode cL_edits 273 = .ok (.iconst 1, 1) := by decide +kernel
theorem dL_edits_274 : decode cL_edits 274 = .ok (.isub, 1) := by decide +kernel
theorem dL_edits_275 : decode cL_edits 275 = .ok (.istore 14, 2) := by decide +kernel
theorem dL_edits_277 : decode cL_edits 277 = .ok (.aload_n 0, 1) := by decide +kernel
theorem dL_edits_278 : decode cL_edits 278 = .ok (.iload 5, 2) := by decide +kernel
theorem dL_edits_280 : decode cL_edits 280 = .ok (.iload 6, 2) := by decide +kernel
theorem dL_edits_282 : decode cL_edits 282 = .ok (.iload 12, 2) := by decide +kernel
theorem dL_edits_284 : decode cL_edits 284 = .ok (.iload 14, 2) := by decide +kernel
theorem dL_edits_286 : decode cL_edits 286 = .ok (.invokestatic 303, 3) := by decide +kernel
theorem dL_edits_289 : decode cL_edits 289 = .ok (.istore 15, 2) := by decide +kernel
theorem dL_edits_291 : decode cL_edits 291 = .ok (.iload 4, 2) := by decide +kernel
theorem dL_edits_293 : decode cL_edits 293 = .ok (.bipush 12, 2) := by decide +kernel
theorem dL_edits_295 : decode cL_edits 295 = .ok (.ishr, 1) := by decide +kernel
theorem dL_edits_296 : decode cL_edits 296 = .ok (.iconst 2, 1) := by decide +kernel
theorem dL_edits_297 : decode cL_edits 297 = .ok (.invokestatic 213, 3) := by decide +kernel
theorem dL_edits_300 : decode cL_edits 300 = .ok (.ifCond .ne 7, 3) := by decide +kernel
theorem dL_edits_303 : decode cL_edits 303 = .ok (.iconst 1, 1) := by decide +kernel
theorem dL_edits_304 : decode cL_edits 304 = .ok (.goto 4, 3) := by decide +kernel
theorem dL_edits_307 : decode cL_edits 307 = .ok (.iconst 0, 1) := by decide +kernel
theorem dL_edits_308 : decode cL_edits 308 = .ok (.istore 16, 2) := by decide +kernel
theorem dL_edits_310 : decode cL_edits 310 = .ok (.aload_n 0, 1) := by decide +kernel
theorem dL_edits_311 : decode cL_edits 311 = .ok (.iload 5, 2) := by decide +kernel
theorem dL_edits_313 : decode cL_edits 313 = .ok (.iload 6, 2) := by decide +kernel
theorem dL_edits_315 : decode cL_edits 315 = .ok (.iload 12, 2) := by decide +kernel
theorem dL_edits_317 : decode cL_edits 317 = .ok (.iload 16, 2) := by decide +kernel
theorem dL_edits_319 : decode cL_edits 319 = .ok (.invokestatic 306, 3) := by decide +kernel
theorem dL_edits_322 : decode cL_edits 322 = .ok (.istore 17, 2) := by decide +kernel
theorem dL_edits_324 : decode cL_edits 324 = .ok (.iload 15, 2) := by decide +kernel
theorem dL_edits_326 : decode cL_edits 326 = .ok (.iconst (-1), 1) := by decide +kernel
theorem dL_edits_327 : decode cL_edits 327 = .ok (.if_icmp .lt 110, 3) := by decide +kernel
theorem dL_edits_330 : decode cL_edits 330 = .ok (.iload 15, 2) := by decide +kernel
theorem dL_edits_332 : decode cL_edits 332 = .ok (.bipush 6, 2) := by decide +kernel
theorem dL_edits_334 : decode cL_edits 334 = .ok (.if_icmp .ge 103, 3) := by decide +kernel
theorem dL_edits_337 : decode cL_edits 337 = .ok (.aload_n 0, 1) := by decide +kernel
theorem dL_edits_338 : decode cL_edits 338 = .ok (.iload 5, 2) := by decide +kernel
theorem dL_edits_340 : decode cL_edits 340 = .ok (.iload 6, 2) := by decide +kernel
theorem dL_edits_342 : decode cL_edits 342 = .ok (.iload 12, 2) := by decide +kernel
theorem dL_edits_344 : decode cL_edits 344 = .ok (.iload 14, 2) := by decide +kernel
theorem dL_edits_346 : decode cL_edits 346 = .ok (.invokestatic 303, 3) := by decide +kernel
theorem dL_edits_349 : decode cL_edits 349 = .ok (.iload 14, 2) := by decide +kernel
theorem dL_edits_351 : decode cL_edits 351 = .ok (.if_icmp .ne 86, 3) := by decide +kernel
theorem dL_edits_354 : decode cL_edits 354 = .ok (.aload_n 0, 1) := by decide +kernel
theorem dL_edits_355 : decode cL_edits 355 = .ok (.iload 5, 2) := by decide +kernel
theorem dL_edits_357 : decode cL_edits 357 = .ok (.iload 6, 2) := by decide +kernel
theorem dL_edits_359 : decode cL_edits 359 = .ok (.iload 12, 2) := by decide +kernel
theorem dL_edits_361 : decode cL_edits 361 = .ok (.bipush 6, 2) := by decide +kernel
theorem dL_edits_363 : decode cL_edits 363 = .ok (.invokestatic 303, 3) := by decide +kernel
theorem dL_edits_366 : decode cL_edits 366 = .ok (.ldc 18, 2) := by decide +kernel
theorem dL_edits_368 : decode cL_edits 368 = .ok (.if_icmp .ne 69, 3) := by decide +kernel
theorem dL_edits_371 : decode cL_edits 371 = .ok (.aload_n 0, 1) := by decide +kernel
theorem dL_edits_372 : decode cL_edits 372 = .ok (.iload 5, 2) := by decide +kernel
theorem dL_edits_374 : decode cL_edits 374 = .ok (.iload 6, 2) := by decide +kernel
theorem dL_edits_376 : decode cL_edits 376 = .ok (.iload 7, 2) := by decide +kernel
theorem dL_edits_378 : decode cL_edits 378 = .ok (.iconst 0, 1) := by decide +kernel
theorem dL_edits_379 : decode cL_edits 379 = .ok (.invokestatic 303, 3) := by decide +kernel
theorem dL_edits_382 : decode cL_edits 382 = .ok (.ldc 28, 2) := by decide +kernel
theorem dL_edits_384 : decode cL_edits 384 = .ok (.if_icmp .ne 53, 3) := by decide +kernel
theorem dL_edits_387 : decode cL_edits 387 = .ok (.iload 13, 2) := by decide +kernel
theorem dL_edits_389 : decode cL_edits 389 = .ok (.iconst (-1), 1) := by decide +kernel
theorem dL_edits_390 : decode cL_edits 390 = .ok (.if_icmp .ne 13, 3) := by decide +kernel
theorem dL_edits_393 : decode cL_edits 393 = .ok (.iload 17, 2) := by decide +kernel
theorem dL_edits_395 : decode cL_edits 395 = .ok (.ldc 21, 2) := by decide +kernel
theorem dL_edits_397 : decode cL_edits 397 = .ok (.if_icmp .ne 40, 3) := by decide +kernel
theorem dL_edits_400 : decode cL_edits 400 = .ok (.goto 33, 3) := by decide +kernel
theorem dL_edits_403 : decode cL_edits 403 = .ok (.iload 17, 2) := by decide +kernel
theorem dL_edits_405 : decode cL_edits 405 = .ok (.ifCond .lt 32, 3) := by decide +kernel
theorem dL_edits_408 : decode cL_edits 408 = .ok (.aload_n 0, 1) := by decide +kernel
theorem dL_edits_409 : decode cL_edits 409 = .ok (.iload 5, 2) := by decide +kernel
theorem dL_edits_411 : decode cL_edits 411 = .ok (.iload 6, 2) := by decide +kernel
theorem dL_edits_413 : decode cL_edits 413 = .ok (.iload 12, 2) := by decide +kernel
theorem dL_edits_415 : decode cL_edits 415 = .ok (.iload 16, 2) := by decide +kernel
theorem dL_edits_417 : decode cL_edits 417 = .ok (.invokestatic 306, 3) := by decide +kernel
theorem dL_edits_420 : decode cL_edits 420 = .ok (.iload 16, 2) := by decide +kernel
theorem dL_edits_422 : decode cL_edits 422 = .ok (.ifCond .eq 7, 3) := by decide +kernel
theorem dL_edits_425 : decode cL_edits 425 = .ok (.iconst 1, 1) := by decide +kernel
theorem dL_edits_426 : decode cL_edits 426 = .ok (.goto 4, 3) := by decide +kernel
theorem dL_edits_429 : decode cL_edits 429 = .ok (.iconst 0, 1) := by decide +kernel
theorem dL_edits_430 : decode cL_edits 430 = .ok (.if_icmp .ne 7, 3) := by decide +kernel
theorem dL_edits_433 : decode cL_edits 433 = .ok (.iconst 1, 1) := by decide +kernel
theorem dL_edits_434 : decode cL_edits 434 = .ok (.goto 4, 3) := by decide +kernel
theorem dL_edits_437 : decode cL_edits 437 = .ok (.iconst 0, 1) := by decide +kernel
theorem dL_edits_438 : decode cL_edits 438 = .ok (.istore 18, 2) := by decide +kernel
theorem dL_edits_440 : decode cL_edits 440 = .ok (.iload 18, 2) := by decide +kernel
theorem dL_edits_442 : decode cL_edits 442 = .ok (.ifCond .eq 118, 3) := by decide +kernel
theorem dL_edits_445 : decode cL_edits 445 = .ok (.aload_n 0, 1) := by decide +kernel
theorem dL_edits_446 : decode cL_edits 446 = .ok (.iload 5, 2) := by decide +kernel
theorem dL_edits_448 : decode cL_edits 448 = .ok (.iload 6, 2) := by decide +kernel
theorem dL_edits_450 : decode cL_edits 450 = .ok (.iload 12, 2) := by decide +kernel
theorem dL_edits_452 : decode cL_edits 452 = .ok (.iload 11, 2) := by decide +kernel
theorem dL_edits_454 : decode cL_edits 454 = .ok (.invokestatic 309, 3) := by decide +kernel
theorem dL_edits_457 : decode cL_edits 457 = .ok (.iload 13, 2) := by decide +kernel
theorem dL_edits_459 : decode cL_edits 459 = .ok (.iconst (-1), 1) := by decide +kernel
theorem dL_edits_460 : decode cL_edits 460 = .ok (.if_icmp .ne 7, 3) := by decide +kernel
theorem dL_edits_463 : decode cL_edits 463 = .ok (.iconst 0, 1) := by decide +kernel
theorem dL_edits_464 : decode cL_edits 464 = .ok (.goto 10, 3) := by decide +kernel
theorem dL_edits_467 : decode cL_edits 467 = .ok (.iload 13, 2) := by decide +kernel
theorem dL_edits_469 : decode cL_edits 469 = .ok (.aload_n 2, 1) := by decide +kernel
theorem dL_edits_470 : decode cL_edits 470 = .ok (.iload 5, 2) := by decide +kernel
theorem dL_edits_472 : decode cL_edits 472 = .ok (.iaload, 1) := by decide +kernel
theorem dL_edits_473 : decode cL_edits 473 = .ok (.isub, 1) := by decide +kernel
theorem dL_edits_474 : decode cL_edits 474 = .ok (.if_icmp .ne 86, 3) := by decide +kernel
theorem dL_edits_477 : decode cL_edits 477 = .ok (.aload_n 0, 1) := by decide +kernel
theorem dL_edits_478 : decode cL_edits 478 = .ok (.iload 5, 2) := by decide +kernel
theorem dL_edits_480 : decode cL_edits 480 = .ok (.iload 6, 2) := by decide +kernel
theorem dL_edits_482 : decode cL_edits 482 = .ok (.iload 12, 2) := by decide +kernel
theorem dL_edits_484 : decode cL_edits 484 = .ok (.invokestatic 294, 3) := by decide +kernel
theorem dL_edits_487 : decode cL_edits 487 = .ok (.iload 11, 2) := by decide +kernel
theorem dL_edits_489 : decode cL_edits 489 = .ok (.ifCond .ne 7, 3) := by decide +kernel
theorem dL_edits_492 : decode cL_edits 492 = .ok (.iconst (-1), 1) := by decide +kernel
theorem dL_edits_493 : decode cL_edits 493 = .ok (.goto 10, 3) := by decide +kernel
theorem dL_edits_496 : decode cL_edits 496 = .ok (.iload 11, 2) := by decide +kernel
theorem dL_edits_498 : decode cL_edits 498 = .ok (.aload_n 2, 1) := by decide +kernel
theorem dL_edits_499 : decode cL_edits 499 = .ok (.iload 5, 2) := by decide +kernel
theorem dL_edits_501 : decode cL_edits 501 = .ok (.iaload, 1) := by decide +kernel
theorem dL_edits_502 : decode cL_edits 502 = .ok (.iadd, 1) := by decide +kernel
theorem dL_edits_503 : decode cL_edits 503 = .ok (.if_icmp .ne 57, 3) := by decide +kernel
theorem dL_edits_506 : decode cL_edits 506 = .ok (.aload_n 0, 1) := by decide +kernel
theorem dL_edits_507 : decode cL_edits 507 = .ok (.iload 5, 2) := by decide +kernel
theorem dL_edits_509 : decode cL_edits 509 = .ok (.iload 6, 2) := by decide +kernel
theorem dL_edits_511 : decode cL_edits 511 = .ok (.iload 12, 2) := by decide +kernel
theorem dL_edits_513 : decode cL_edits 513 = .ok (.sipush 128, 3) := by decide +kernel
theorem dL_edits_516 : decode cL_edits 516 = .ok (.invokestatic 309, 3) := by decide +kernel
theorem dL_edits_519 : decode cL_edits 519 = .ok (.ldc 18, 2) := by decide +kernel
theorem dL_edits_521 : decode cL_edits 521 = .ok (.if_icmp .ne 39, 3) := by decide +kernel
theorem dL_edits_524 : decode cL_edits 524 = .ok (.aload_n 0, 1) := by decide +kernel
theorem dL_edits_525 : decode cL_edits 525 = .ok (.iload 5, 2) := by decide +kernel
theorem dL_edits_527 : decode cL_edits 527 = .ok (.iload 6, 2) := by decide +kernel
theorem dL_edits_529 : decode cL_edits 529 = .ok (.iload 7, 2) := by decide +kernel
theorem dL_edits_531 : decode cL_edits 531 = .ok (.iconst 1, 1) := by decide +kernel
theorem dL_edits_532 : decode cL_edits 532 = .ok (.invokestatic 309, 3) := by decide +kernel
theorem dL_edits_535 : decode cL_edits 535 = .ok (.ldc 28, 2) := by decide +kernel
theorem dL_edits_537 : decode cL_edits 537 = .ok (.if_icmp .ne 23, 3) := by decide +kernel
theorem dL_edits_540 : decode cL_edits 540 = .ok (.aload_n 0, 1) := by decide +kernel
theorem dL_edits_541 : decode cL_edits 541 = .ok (.iload 5, 2) := by decide +kernel
theorem dL_edits_543 : decode cL_edits 543 = .ok (.iload 6, 2) := by decide +kernel
theorem dL_edits_545 : decode cL_edits 545 = .ok (.iload 7, 2) := by decide +kernel
theorem dL_edits_547 : decode cL_edits 547 = .ok (.iconst 1, 1) := by decide +kernel
theorem dL_edits_548 : decode cL_edits 548 = .ok (.invokestatic 306, 3) := by decide +kernel
theorem dL_edits_551 : decode cL_edits 551 = .ok (.ldc 28, 2) := by decide +kernel
theorem dL_edits_553 : decode cL_edits 553 = .ok (.if_icmp .ne 7, 3) := by decide +kernel
theorem dL_edits_556 : decode cL_edits 556 = .ok (.iconst 1, 1) := by decide +kernel
theorem dL_edits_557 : decode cL_edits 557 = .ok (.goto 4, 3) := by decide +kernel
theorem dL_edits_560 : decode cL_edits 560 = .ok (.iconst 0, 1) := by decide +kernel
theorem dL_edits_561 : decode cL_edits 561 = .ok (.ireturn, 1) := by decide +kernel
theorem dL_edits_562 : decode cL_edits 562 = .ok (.iload 4, 2) := by decide +kernel
theorem dL_edits_564 : decode cL_edits 564 = .ok (.bipush 9, 2) := by decide +kernel
theorem dL_edits_566 : decode cL_edits 566 = .ok (.ishr, 1) := by decide +kernel
theorem dL_edits_567 : decode cL_edits 567 = .ok (.iload 7, 2) := by decide +kernel
theorem dL_edits_569 : decode cL_edits 569 = .ok (.iconst 1, 1) := by decide +kernel
theorem dL_edits_570 : decode cL_edits 570 = .ok (.iadd, 1) := by decide +kernel
theorem dL_edits_571 : decode cL_edits 571 = .ok (.invokestatic 213, 3) := by decide +kernel
theorem dL_edits_574 : decode cL_edits 574 = .ok (.istore 12, 2) := by decide +kernel
theorem dL_edits_576 : decode cL_edits 576 = .ok (.iload 9, 2) := by decide +kernel
theorem dL_edits_578 : decode cL_edits 578 = .ok (.iconst 5, 1) := by decide +kernel
theorem dL_edits_579 : decode cL_edits 579 = .ok (.if_icmp .lt 9, 3) := by decide +kernel
theorem dL_edits_582 : decode cL_edits 582 = .ok (.iload 10, 2) := by decide +kernel
theorem dL_edits_584 : decode cL_edits 584 = .ok (.iconst 1, 1) := by decide +kernel
theorem dL_edits_585 : decode cL_edits 585 = .ok (.if_icmp .eq 7, 3) := by decide +kernel
theorem dL_edits_588 : decode cL_edits 588 = .ok (.iconst 1, 1) := by decide +kernel
theorem dL_edits_589 : decode cL_edits 589 = .ok (.goto 4, 3) := by decide +kernel
theorem dL_edits_592 : decode cL_edits 592 = .ok (.iconst 0, 1) := by decide +kernel
theorem dL_edits_593 : decode cL_edits 593 = .ok (.istore 13, 2) := by decide +kernel
theorem dL_edits_595 : decode cL_edits 595 = .ok (.iload 13, 2) := by decide +kernel
theorem dL_edits_597 : decode cL_edits 597 = .ok (.ifCond .ne 8, 3) := by decide +kernel
theorem dL_edits_600 : decode cL_edits 600 = .ok (.ldc 18, 2) := by decide +kernel
theorem dL_edits_602 : decode cL_edits 602 = .ok (.goto 37, 3) := by decide +kernel
theorem dL_edits_605 : decode cL_edits 605 = .ok (.iload 7, 2) := by decide +kernel
theorem dL_edits_607 : decode cL_edits 607 = .ok (.bipush 16, 2) := by decide +kernel
theorem dL_edits_609 : decode cL_edits 609 = .ok (.if_icmp .eq 15, 3) := by decide +kernel
theorem dL_edits_612 : decode cL_edits 612 = .ok (.iload 9, 2) := by decide +kernel
theorem dL_edits_614 : decode cL_edits 614 = .ok (.iload 10, 2) := by decide +kernel
theorem dL_edits_616 : decode cL_edits 616 = .ok (.invokestatic 311, 3) := by decide +kernel
theorem dL_edits_619 : decode cL_edits 619 = .ok (.iload 8, 2) := by decide +kernel
theorem dL_edits_621 : decode cL_edits 621 = .ok (.if_icmp .le 8, 3) := by decide +kernel
theorem dL_edits_624 : decode cL_edits 624 = .ok (.ldc 21, 2) := by decide +kernel
theorem dL_edits_626 : decode cL_edits 626 = .ok (.goto 13, 3) := by decide +kernel
theorem dL_edits_629 : decode cL_edits 629 = .ok (.iload 8, 2) := by decide +kernel
theorem dL_edits_631 : decode cL_edits 631 = .ok (.iload 9, 2) := by decide +kernel
theorem dL_edits_633 : decode cL_edits 633 = .ok (.iload 10, 2) := by decide +kernel
theorem dL_edits_635 : decode cL_edits 635 = .ok (.invokestatic 311, 3) := by decide +kernel
theorem dL_edits_638 : decode cL_edits 638 = .ok (.isub, 1) := by decide +kernel
theorem dL_edits_639 : decode cL_edits 639 = .ok (.istore 14, 2) := by decide +kernel
theorem dL_edits_641 : decode cL_edits 641 = .ok (.aload_n 0, 1) := by decide +kernel
theorem dL_edits_642 : decode cL_edits 642 = .ok (.iload 5, 2) := by decide +kernel
theorem dL_edits_644 : decode cL_edits 644 = .ok (.iload 6, 2) := by decide +kernel
theorem dL_edits_646 : decode cL_edits 646 = .ok (.iload 12, 2) := by decide +kernel
theorem dL_edits_648 : decode cL_edits 648 = .ok (.iload 11, 2) := by decide +kernel
theorem dL_edits_650 : decode cL_edits 650 = .ok (.iload 9, 2) := by decide +kernel
theorem dL_edits_652 : decode cL_edits 652 = .ok (.iload 10, 2) := by decide +kernel
theorem dL_edits_654 : decode cL_edits 654 = .ok (.invokestatic 291, 3) := by decide +kernel
theorem dL_edits_657 : decode cL_edits 657 = .ok (.iload 14, 2) := by decide +kernel
theorem dL_edits_659 : decode cL_edits 659 = .ok (.if_icmp .ne 139, 3) := by decide +kernel
theorem dL_edits_662 : decode cL_edits 662 = .ok (.aload_n 0, 1) := by decide +kernel
theorem dL_edits_663 : decode cL_edits 663 = .ok (.iload 5, 2) := by decide +kernel
theorem dL_edits_665 : decode cL_edits 665 = .ok (.iload 6, 2) := by decide +kernel
theorem dL_edits_667 : decode cL_edits 667 = .ok (.invokestatic 236, 3) := by decide +kernel
theorem dL_edits_670 : decode cL_edits 670 = .ok (.iload 14, 2) := by decide +kernel
theorem dL_edits_672 : decode cL_edits 672 = .ok (.ifCond .ge 8, 3) := by decide +kernel
theorem dL_edits_675 : decode cL_edits 675 = .ok (.iload 7, 2) := by decide +kernel
theorem dL_edits_677 : decode cL_edits 677 = .ok (.goto 7, 3) := by decide +kernel
theorem dL_edits_680 : decode cL_edits 680 = .ok (.iload 7, 2) := by decide +kernel
theorem dL_edits_682 : decode cL_edits 682 = .ok (.iconst 1, 1) := by decide +kernel
theorem dL_edits_683 : decode cL_edits 683 = .ok (.iadd, 1) := by decide +kernel
theorem dL_edits_684 : decode cL_edits 684 = .ok (.if_icmp .ne 114, 3) := by decide +kernel
theorem dL_edits_687 : decode cL_edits 687 = .ok (.aload_n 0, 1) := by decide +kernel
theorem dL_edits_688 : decode cL_edits 688 = .ok (.iload 5, 2) := by decide +kernel
theorem dL_edits_690 : decode cL_edits 690 = .ok (.iload 6, 2) := by decide +kernel
theorem dL_edits_692 : decode cL_edits 692 = .ok (.iload 7, 2) := by decide +kernel
theorem dL_edits_694 : decode cL_edits 694 = .ok (.iconst 2, 1) := by decide +kernel
theorem dL_edits_695 : decode cL_edits 695 = .ok (.iadd, 1) := by decide +kernel
theorem dL_edits_696 : decode cL_edits 696 = .ok (.iconst 1, 1) := by decide +kernel
theorem dL_edits_697 : decode cL_edits 697 = .ok (.iconst 0, 1) := by decide +kernel
theorem dL_edits_698 : decode cL_edits 698 = .ok (.iconst 0, 1) := by decide +kernel
theorem dL_edits_699 : decode cL_edits 699 = .ok (.invokestatic 291, 3) := by decide +kernel
theorem dL_edits_702 : decode cL_edits 702 = .ok (.ldc 28, 2) := by decide +kernel
theorem dL_edits_704 : decode cL_edits 704 = .ok (.if_icmp .ne 94, 3) := by decide +kernel
theorem dL_edits_707 : decode cL_edits 707 = .ok (.aload_n 0, 1) := by decide +kernel
theorem dL_edits_708 : decode cL_edits 708 = .ok (.iload 5, 2) := by decide +kernel
theorem dL_edits_710 : decode cL_edits 710 = .ok (.aload_n 1, 1) := by decide +kernel
theorem dL_edits_711 : decode cL_edits 711 = .ok (.iconst 0, 1) := by decide +kernel
theorem dL_edits_712 : decode cL_edits 712 = .ok (.iaload, 1) := by decide +kernel
theorem dL_edits_713 : decode cL_edits 713 = .ok (.iconst 0, 1) := by decide +kernel
theorem dL_edits_714 : decode cL_edits 714 = .ok (.iconst 1, 1) := by decide +kernel
theorem dL_edits_715 : decode cL_edits 715 = .ok (.iconst 0, 1) := by decide +kernel
theorem dL_edits_716 : decode cL_edits 716 = .ok (.iconst 0, 1) := by decide +kernel
theorem dL_edits_717 : decode cL_edits 717 = .ok (.invokestatic 291, 3) := by decide +kernel
theorem dL_edits_720 : decode cL_edits 720 = .ok (.ldc 28, 2) := by decide +kernel
theorem dL_edits_722 : decode cL_edits 722 = .ok (.if_icmp .ne 76, 3) := by decide +kernel
theorem dL_edits_725 : decode cL_edits 725 = .ok (.aload_n 0, 1) := by decide +kernel
theorem dL_edits_726 : decode cL_edits 726 = .ok (.iconst 4, 1) := by decide +kernel
theorem dL_edits_727 : decode cL_edits 727 = .ok (.iconst 0, 1) := by decide +kernel
theorem dL_edits_728 : decode cL_edits 728 = .ok (.iconst 0, 1) := by decide +kernel
theorem dL_edits_729 : decode cL_edits 729 = .ok (.iconst 1, 1) := by decide +kernel
theorem dL_edits_730 : decode cL_edits 730 = .ok (.iconst 0, 1) := by decide +kernel
theorem dL_edits_731 : decode cL_edits 731 = .ok (.iconst 0, 1) := by decide +kernel
theorem dL_edits_732 : decode cL_edits 732 = .ok (.invokestatic 291, 3) := by decide +kernel
theorem dL_edits_735 : decode cL_edits 735 = .ok (.ldc 18, 2) := by decide +kernel
theorem dL_edits_737 : decode cL_edits 737 = .ok (.if_icmp .ne 61, 3) := by decide +kernel
theorem dL_edits_740 : decode cL_edits 740 = .ok (.aload_n 0, 1) := by decide +kernel
theorem dL_edits_741 : decode cL_edits 741 = .ok (.iload 5, 2) := by decide +kernel
theorem dL_edits_743 : decode cL_edits 743 = .ok (.iload 6, 2) := by decide +kernel
theorem dL_edits_745 : decode cL_edits 745 = .ok (.iconst 0, 1) := by decide +kernel
theorem dL_edits_746 : decode cL_edits 746 = .ok (.sipush 128, 3) := by decide +kernel
theorem dL_edits_749 : decode cL_edits 749 = .ok (.iconst 0, 1) := by decide +kernel
theorem dL_edits_750 : decode cL_edits 750 = .ok (.iconst 0, 1) := by decide +kernel
theorem dL_edits_751 : decode cL_edits 751 = .ok (.invokestatic 291, 3) := by decide +kernel
theorem dL_edits_754 : decode cL_edits 754 = .ok (.ldc 18, 2) := by decide +kernel
theorem dL_edits_756 : decode cL_edits 756 = .ok (.if_icmp .ne 42, 3) := by decide +kernel
theorem dL_edits_759 : decode cL_edits 759 = .ok (.aload_n 0, 1) := by decide +kernel
theorem dL_edits_760 : decode cL_edits 760 = .ok (.iload 5, 2) := by decide +kernel
theorem dL_edits_762 : decode cL_edits 762 = .ok (.iload 6, 2) := by decide +kernel
theorem dL_edits_764 : decode cL_edits 764 = .ok (.iconst 0, 1) := by decide +kernel
theorem dL_edits_765 : decode cL_edits 765 = .ok (.iconst 1, 1) := by decide +kernel
theorem dL_edits_766 : decode cL_edits 766 = .ok (.bipush 6, 2) := by decide +kernel
theorem dL_edits_768 : decode cL_edits 768 = .ok (.iconst 0, 1) := by decide +kernel
theorem dL_edits_769 : decode cL_edits 769 = .ok (.invokestatic 291, 3) := by decide +kernel
theorem dL_edits_772 : decode cL_edits 772 = .ok (.ldc 18, 2) := by decide +kernel
theorem dL_edits_774 : decode cL_edits 774 = .ok (.if_icmp .ne 24, 3) := by decide +kernel
theorem dL_edits_777 : decode cL_edits 777 = .ok (.aload_n 0, 1) := by decide +kernel
theorem dL_edits_778 : decode cL_edits 778 = .ok (.iload 5, 2) := by decide +kernel
theorem dL_edits_780 : decode cL_edits 780 = .ok (.iload 6, 2) := by decide +kernel
theorem dL_edits_782 : decode cL_edits 782 = .ok (.iconst 0, 1) := by decide +kernel
theorem dL_edits_783 : decode cL_edits 783 = .ok (.iconst 1, 1) := by decide +kernel
theorem dL_edits_784 : decode cL_edits 784 = .ok (.iconst 0, 1) := by decide +kernel
theorem dL_edits_785 : decode cL_edits 785 = .ok (.iconst 3, 1) := by decide +kernel
theorem dL_edits_786 : decode cL_edits 786 = .ok (.invokestatic 291, 3) := by decide +kernel
theorem dL_edits_789 : decode cL_edits 789 = .ok (.ldc 18, 2) := by decide +kernel
theorem dL_edits_791 : decode cL_edits 791 = .ok (.if_icmp .ne 7, 3) := by decide +kernel
theorem dL_edits_794 : decode cL_edits 794 = .ok (.iconst 1, 1) := by decide +kernel
theorem dL_edits_795 : decode cL_edits 795 = .ok (.goto 4, 3) := by decide +kernel
theorem dL_edits_798 : decode cL_edits 798 = .ok (.iconst 0, 1) := by decide +kernel
theorem dL_edits_799 : decode cL_edits 799 = .ok (.ireturn, 1) := by decide +kernel
theorem dL_tells_0 : decode cL_tells 0 = .ok (.iload_n 3, 1) := by decide +kernel
theorem dL_tells_1 : decode cL_tells 1 = .ok (.bipush 8, 2) := by decide +kernel
theorem dL_tells_3 : decode cL_tells 3 = .ok (.invokestatic 213, 3) := by decide +kernel
theorem dL_tells_6 : decode cL_tells 6 = .ok (.istore 5, 2) := by decide +kernel
theorem dL_tells_8 : decode cL_tells 8 = .ok (.iload 4, 2) := by decide +kernel
theorem dL_tells_10 : decode cL_tells 10 = .ok (.aload_n 1, 1) := by decide +kernel
theorem dL_tells_11 : decode cL_tells 11 = .ok (.iconst 0, 1) := by decide +kernel
theorem dL_tells_12 : decode cL_tells 12 = .ok (.iaload, 1) := by decide +kernel
theorem dL_tells_13 : decode cL_tells 13 = .ok (.invokestatic 213, 3) := by decide +kernel
theorem dL_tells_16 : decode cL_tells 16 = .ok (.istore 6, 2) := by decide +kernel
theorem dL_tells_18 : decode cL_tells 18 = .ok (.iload 5, 2) := by decide +kernel
theorem dL_tells_20 : decode cL_tells 20 = .ok (.ifCond .ne 125, 3) := by decide +kernel
theorem dL_tells_23 : decode cL_tells 23 = .ok (.iload 4, 2) := by decide +kernel
theorem dL_tells_25 : decode cL_tells 25 = .ok (.iconst 5, 1) := by decide +kernel
theorem dL_tells_26 : decode cL_tells 26 = .ok (.ishr, 1) := by decide +kernel
theorem dL_tells_27 : decode cL_tells 27 = .ok (.iconst 3, 1) := by decide +kernel
theorem dL_tells_28 : decode cL_tells 28 = .ok (.invokestatic 213, 3) := by decide +kernel
theorem dL_tells_31 : decode cL_tells 31 = .ok (.ifCond .ne 7, 3) := by decide +kernel
theorem dL_tells_34 : decode cL_tells 34 = .ok (.iconst (-1), 1) := by decide +kernel
theorem dL_tells_35 : decode cL_tells 35 = .ok (.goto 17, 3) := by decide +kernel
theorem dL_tells_38 : decode cL_tells 38 = .ok (.bipush 30, 2) := by decide +kernel
theorem dL_tells_40 : decode cL_tells 40 = .ok (.iload 4, 2) := by decide +kernel
theorem dL_tells_42 : decode cL_tells 42 = .ok (.bipush 7, 2) := by decide +kernel
theorem dL_tells_44 : decode cL_tells 44 = .ok (.ishr, 1) := by decide +kernel
theorem dL_tells_45 : decode cL_tells 45 = .ok (.sipush 211, 3) := by decide +kernel
theorem dL_tells_48 : decode cL_tells 48 = .ok (.invokestatic 213, 3) := by decide +kernel
theorem dL_tells_51 : decode cL_tells 51 = .ok (.iadd, 1) := by decide +kernel
theorem dL_tells_52 : decode cL_tells 52 = .ok (.istore 7, 2) := by decide +kernel
theorem dL_tells_54 : decode cL_tells 54 = .ok (.aload_n 0, 1) := by decide +kernel
theorem dL_tells_55 : decode cL_tells 55 = .ok (.iload 6, 2) := by decide +kernel
theorem dL_tells_57 : decode cL_tells 57 = .ok (.iload 7, 2) := by decide +kernel
theorem dL_tells_59 : decode cL_tells 59 = .ok (.invokestatic 314, 3) := by decide +kernel
theorem dL_tells_62 : decode cL_tells 62 = .ok (.istore 8, 2) := by decide +kernel
theorem dL_tells_64 : decode cL_tells 64 = .ok (.iload 8, 2) := by decide +kernel
theorem dL_tells_66 : decode cL_tells 66 = .ok (.iconst (-1), 1) := by decide +kernel
theorem dL_tells_67 : decode cL_tells 67 = .ok (.if_icmp .lt 76, 3) := by decide +kernel
theorem dL_tells_70 : decode cL_tells 70 = .ok (.aload_n 0, 1) := by decide +kernel
theorem dL_tells_71 : decode cL_tells 71 = .ok (.iload 6, 2) := by decide +kernel
theorem dL_tells_73 : decode cL_tells 73 = .ok (.iload 7, 2) := by decide +kernel
theorem dL_tells_75 : decode cL_tells 75 = .ok (.invokestatic 314, 3) := by decide +kernel
theorem dL_tells_78 : decode cL_tells 78 = .ok (.iload 7, 2) := by decide +kernel
theorem dL_tells_80 : decode cL_tells 80 = .ok (.if_icmp .ne 63, 3) := by decide +kernel
theorem dL_tells_83 : decode cL_tells 83 = .ok (.iload 7, 2) := by decide +kernel
theorem dL_tells_85 : decode cL_tells 85 = .ok (.ifCond .lt 14, 3) := by decide +kernel
theorem dL_tells_88 : decode cL_tells 88 = .ok (.aload_n 0, 1) := by decide +kernel
theorem dL_tells_89 : decode cL_tells 89 = .ok (.iload 6, 2) := by decide +kernel
theorem dL_tells_91 : decode cL_tells 91 = .ok (.invokestatic 195, 3) := by decide +kernel
theorem dL_tells_94 : decode cL_tells 94 = .ok (.iload 7, 2) := by decide +kernel
theorem dL_tells_96 : decode cL_tells 96 = .ok (.if_icmp .ne 47, 3) := by decide +kernel
theorem dL_tells_99 : decode cL_tells 99 = .ok (.aload_n 0, 1) := by decide +kernel
theorem dL_tells_100 : decode cL_tells 100 = .ok (.iload 6, 2) := by decide +kernel
theorem dL_tells_102 : decode cL_tells 102 = .ok (.bipush 29, 2) := by decide +kernel
theorem dL_tells_104 : decode cL_tells 104 = .ok (.invokestatic 314, 3) := by decide +kernel
theorem dL_tells_107 : decode cL_tells 107 = .ok (.ldc 18, 2) := by decide +kernel
theorem dL_tells_109 : decode cL_tells 109 = .ok (.if_icmp .ne 34, 3) := by decide +kernel
theorem dL_tells_112 : decode cL_tells 112 = .ok (.aload_n 0, 1) := by decide +kernel
theorem dL_tells_113 : decode cL_tells 113 = .ok (.iload 6, 2) := by decide +kernel
theorem dL_tells_115 : decode cL_tells 115 = .ok (.sipush 241, 3) := by decide +kernel
theorem dL_tells_118 : decode cL_tells 118 = .ok (.invokestatic 314, 3) := by decide +kernel
theorem dL_tells_121 : decode cL_tells 121 = .ok (.ldc 18, 2) := by decide +kernel
theorem dL_tells_123 : decode cL_tells 123 = .ok (.if_icmp .ne 20, 3) := by decide +kernel
theorem dL_tells_126 : decode cL_tells 126 = .ok (.aload_n 0, 1) := by decide +kernel
theorem dL_tells_127 : decode cL_tells 127 = .ok (.aload_n 1, 1) := by decide +kernel
theorem dL_tells_128 : decode cL_tells 128 = .ok (.iconst 0, 1) := by decide +kernel
theorem dL_tells_129 : decode cL_tells 129 = .ok (.iaload, 1) := by decide +kernel
theorem dL_tells_130 : decode cL_tells 130 = .ok (.iconst 0, 1) := by decide +kernel
theorem dL_tells_131 : decode cL_tells 131 = .ok (.invokestatic 314, 3) := by decide +kernel
theorem dL_tells_134 : decode cL_tells 134 = .ok (.ldc 28, 2) := by decide +kernel
theorem dL_tells_136 : decode cL_tells 136 = .ok (.if_icmp .ne 7, 3) := by decide +kernel
theorem dL_tells_139 : decode cL_tells 139 = .ok (.iconst 1, 1) := by decide +kernel
theorem dL_tells_140 : decode cL_tells 140 = .ok (.goto 4, 3) := by decide +kernel
theorem dL_tells_143 : decode cL_tells 143 = .ok (.iconst 0, 1) := by decide +kernel
theorem dL_tells_144 : decode cL_tells 144 = .ok (.ireturn, 1) := by decide +kernel
theorem dL_tells_145 : decode cL_tells 145 = .ok (.iload 5, 2) := by decide +kernel
theorem dL_tells_147 : decode cL_tells 147 = .ok (.iconst 1, 1) := by decide +kernel
theorem dL_tells_148 : decode cL_tells 148 = .ok (.if_icmp .ne 187, 3) := by decide +kernel
theorem dL_tells_151 : decode cL_tells 151 = .ok (.iconst 1, 1) := by decide +kernel
theorem dL_tells_152 : decode cL_tells 152 = .ok (.iload 4, 2) := by decide +kernel
theorem dL_tells_154 : decode cL_tells 154 = .ok (.iconst 5, 1) := by decide +kernel
theorem dL_tells_155 : decode cL_tells 155 = .ok (.ishr, 1) := by decide +kernel
theorem dL_tells_156 : decode cL_tells 156 = .ok (.bipush 9, 2) := by decide +kernel
theorem dL_tells_158 : decode cL_tells 158 = .ok (.invokestatic 213, 3) := by decide +kernel
theorem dL_tells_161 : decode cL_tells 161 = .ok (.iadd, 1) := by decide +kernel
theorem dL_tells_162 : decode cL_tells 162 = .ok (.istore 7, 2) := by decide +kernel
theorem dL_tells_164 : decode cL_tells 164 = .ok (.iconst 2, 1) := by decide +kernel
theorem dL_tells_165 : decode cL_tells 165 = .ok (.iload 4, 2) := by decide +kernel
theorem dL_tells_167 : decode cL_tells 167 = .ok (.bipush 9, 2) := by decide +kernel
theorem dL_tells_169 : decode cL_tells 169 = .ok (.ishr, 1) := by decide +kernel
theorem dL_tells_170 : decode cL_tells 170 = .ok (.iconst 3, 1) := by decide +kernel
theorem dL_tells_171 : decode cL_tells 171 = .ok (.invokestatic 213, 3) := by decide +kernel
theorem dL_tells_174 : decode cL_tells 174 = .ok (.ishl, 1) := by decide +kernel
theorem dL_tells_175 : decode cL_tells 175 = .ok (.istore 8, 2) := by decide +kernel
theorem dL_tells_177 : decode cL_tells 177 = .ok (.aload_n 0, 1) := by decide +kernel
theorem dL_tells_178 : decode cL_tells 178 = .ok (.iload 6, 2) := by decide +kernel
theorem dL_tells_180 : decode cL_tells 180 = .ok (.invokestatic 193, 3) := by decide +kernel
theorem dL_tells_183 : decode cL_tells 183 = .ok (.istore 9, 2) := by decide +kernel
theorem dL_tells_185 : decode cL_tells 185 = .ok (.iconst 1, 1) := by decide +kernel
theorem dL_tells_186 : decode cL_tells 186 = .ok (.istore 10, 2) := by decide +kernel
theorem dL_tells_188 : decode cL_tells 188 = .ok (.iconst 0, 1) := by decide +kernel
theorem dL_tells_189 : decode cL_tells 189 = .ok (.istore 11, 2) := by decide +kernel
theorem dL_tells_191 : decode cL_tells 191 = .ok (.iload 11, 2) := by decide +kernel
theorem dL_tells_193 : decode cL_tells 193 = .ok (.iconst 4, 1) := by decide +kernel
theorem dL_tells_194 : decode cL_tells 194 = .ok (.if_icmp .ge 43, 3) := by decide +kernel
theorem dL_tells_197 : decode cL_tells 197 = .ok (.iload 10, 2) := by decide +kernel
theorem dL_tells_199 : decode cL_tells 199 = .ok (.ifCond .eq 29, 3) := by decide +kernel
theorem dL_tells_202 : decode cL_tells 202 = .ok (.iload 9, 2) := by decide +kernel
theorem dL_tells_204 : decode cL_tells 204 = .ok (.aload_n 0, 1) := by decide +kernel
theorem dL_tells_205 : decode cL_tells 205 = .ok (.iload 11, 2) := by decide +kernel
theorem dL_tells_207 : decode cL_tells 207 = .ok (.iload 6, 2) := by decide +kernel
theorem dL_tells_209 : decode cL_tells 209 = .ok (.invokestatic 289, 3) := by decide +kernel
theorem dL_tells_212 : decode cL_tells 212 = .ok (.isub, 1) := by decide +kernel
theorem dL_tells_213 : decode cL_tells 213 = .ok (.bipush 96, 2) := by decide +kernel
theorem dL_tells_215 : decode cL_tells 215 = .ok (.iload 7, 2) := by decide +kernel
theorem dL_tells_217 : decode cL_tells 217 = .ok (.imul, 1) := by decide +kernel
theorem dL_tells_218 : decode cL_tells 218 = .ok (.iload 8, 2) := by decide +kernel
theorem dL_tells_220 : decode cL_tells 220 = .ok (.idiv, 1) := by decide +kernel
theorem dL_tells_221 : decode cL_tells 221 = .ok (.if_icmp .gt 7, 3) := by decide +kernel
theorem dL_tells_224 : decode cL_tells 224 = .ok (.iconst 1, 1) := by decide +kernel
theorem dL_tells_225 : decode cL_tells 225 = .ok (.goto 4, 3) := by decide +kernel
theorem dL_tells_228 : decode cL_tells 228 = .ok (.iconst 0, 1) := by decide +kernel
theorem dL_tells_229 : decode cL_tells 229 = .ok (.istore 10, 2) := by decide +kernel
theorem dL_tells_231 : decode cL_tells 231 = .ok (.iinc 11 1, 3) := by decide +kernel
theorem dL_tells_234 : decode cL_tells 234 = .ok (.goto (-43), 3) := by decide +kernel
theorem dL_tells_237 : decode cL_tells 237 = .ok (.aload_n 0, 1) := by decide +kernel
theorem dL_tells_238 : decode cL_tells 238 = .ok (.iload 6, 2) := by decide +kernel
theorem dL_tells_240 : decode cL_tells 240 = .ok (.iload 7, 2) := by decide +kernel
theorem dL_tells_242 : decode cL_tells 242 = .ok (.iload 8, 2) := by decide +kernel
theorem dL_tells_244 : decode cL_tells 244 = .ok (.invokestatic 316, 3) := by decide +kernel
theorem dL_tells_247 : decode cL_tells 247 = .ok (.iload 10, 2) := by decide +kernel
theorem dL_tells_249 : decode cL_tells 249 = .ok (.ifCond .eq 8, 3) := by decide +kernel
theorem dL_tells_252 : decode cL_tells 252 = .ok (.iload 9, 2) := by decide +kernel
theorem dL_tells_254 : decode cL_tells 254 = .ok (.goto 5, 3) := by decide +kernel
theorem dL_tells_257 : decode cL_tells 257 = .ok (.ldc 21, 2) := by decide +kernel
theorem dL_tells_259 : decode cL_tells 259 = .ok (.if_icmp .ne 74, 3) := by decide +kernel
theorem dL_tells_262 : decode cL_tells 262 = .ok (.aload_n 0, 1) := by decide +kernel
theorem dL_tells_263 : decode cL_tells 263 = .ok (.iload 6, 2) := by decide +kernel
theorem dL_tells_265 : decode cL_tells 265 = .ok (.invokestatic 193, 3) := by decide +kernel
theorem dL_tells_268 : decode cL_tells 268 = .ok (.iload 10, 2) := by decide +kernel
theorem dL_tells_270 : decode cL_tells 270 = .ok (.ifCond .eq 14, 3) := by decide +kernel
theorem dL_tells_273 : decode cL_tells 273 = .ok (.bipush 96, 2) := by decide +kernel
theorem dL_tells_275 : decode cL_tells 275 = .ok (.iload 7, 2) := by decide +kernel
theorem dL_tells_277 : decode cL_tells 277 = .ok (.imul, 1) := by decide +kernel
theorem dL_tells_278 : decode cL_tells 278 = .ok (.iload 8, 2) := by decide +kernel
theorem dL_tells_280 : decode cL_tells 280 = .ok (.idiv, 1) := by decide +kernel
theorem dL_tells_281 : decode cL_tells 281 = .ok (.goto 5, 3) := by decide +kernel
theorem dL_tells_284 : decode cL_tells 284 = .ok (.iload 9, 2) := by decide +kernel
theorem dL_tells_286 : decode cL_tells 286 = .ok (.if_icmp .ne 47, 3) := by decide +kernel
theorem dL_tells_289 : decode cL_tells 289 = .ok (.aload_n 0, 1) := by decide +kernel
theorem dL_tells_290 : decode cL_tells 290 = .ok (.iload 6, 2) := by decide +kernel
theorem dL_tells_292 : decode cL_tells 292 = .ok (.iconst 0, 1) := by decide +kernel
theorem dL_tells_293 : decode cL_tells 293 = .ok (.iconst 4, 1) := by decide +kernel
theorem dL_tells_294 : decode cL_tells 294 = .ok (.invokestatic 316, 3) := by decide +kernel
theorem dL_tells_297 : decode cL_tells 297 = .ok (.ldc 18, 2) := by decide +kernel
theorem dL_tells_299 : decode cL_tells 299 = .ok (.if_icmp .ne 34, 3) := by decide +kernel
theorem dL_tells_302 : decode cL_tells 302 = .ok (.aload_n 0, 1) := by decide +kernel
theorem dL_tells_303 : decode cL_tells 303 = .ok (.iload 6, 2) := by decide +kernel
theorem dL_tells_305 : decode cL_tells 305 = .ok (.iconst 4, 1) := by decide +kernel
theorem dL_tells_306 : decode cL_tells 306 = .ok (.iconst 3, 1) := by decide +kernel
theorem dL_tells_307 : decode cL_tells 307 = .ok (.invokestatic 316, 3) := by decide +kernel
theorem dL_tells_310 : decode cL_tells 310 = .ok (.ldc 18, 2) := by decide +kernel
theorem dL_tells_312 : decode cL_tells 312 = .ok (.if_icmp .ne 21, 3) := by decide +kernel
theorem dL_tells_315 : decode cL_tells 315 = .ok (.aload_n 0, 1) := by decide +kernel
theorem dL_tells_316 : decode cL_tells 316 = .ok (.aload_n 1, 1) := by decide +kernel
theorem dL_tells_317 : decode cL_tells 317 = .ok (.iconst 0, 1) := by decide +kernel
theorem dL_tells_318 : decode cL_tells 318 = .ok (.iaload, 1) := by decide +kernel
theorem dL_tells_319 : decode cL_tells 319 = .ok (.iconst 0, 1) := by decide +kernel
theorem dL_tells_320 : decode cL_tells 320 = .ok (.iconst 4, 1) := by decide +kernel
theorem dL_tells_321 : decode cL_tells 321 = .ok (.invokestatic 316, 3) := by decide +kernel
theorem dL_tells_324 : decode cL_tells 324 = .ok (.ldc 28, 2) := by decide +kernel
theorem dL_tells_326 : decode cL_tells 326 = .ok (.if_icmp .ne 7, 3) := by decide +kernel
theorem dL_tells_329 : decode cL_tells 329 = .ok (.iconst 1, 1) := by decide +kernel
theorem dL_tells_330 : decode cL_tells 330 = .ok (.goto 4, 3) := by decide +kernel
theorem dL_tells_333 : decode cL_tells 333 = .ok (.iconst 0, 1) := by decide +kernel
theorem dL_tells_334 : decode cL_tells 334 = .ok (.ireturn, 1) := by decide +kernel
theorem dL_tells_335 : decode cL_tells 335 = .ok (.iload 5, 2) := by decide +kernel
theorem dL_tells_337 : decode cL_tells 337 = .ok (.iconst 2, 1) := by decide +kernel
theorem dL_tells_338 : decode cL_tells 338 = .ok (.if_icmp .ne 199, 3) := by decide +kernel
theorem dL_tells_341 : decode cL_tells 341 = .ok (.iload 6, 2) := by decide +kernel
theorem dL_tells_343 : decode cL_tells 343 = .ok (.iload 4, 2) := by decide +kernel
theorem dL_tells_345 : decode cL_tells 345 = .ok (.iconst 5, 1) := by decide +kernel
theorem dL_tells_346 : decode cL_tells 346 = .ok (.ishr, 1) := by decide +kernel
theorem dL_tells_347 : decode cL_tells 347 = .ok (.aload_n 1, 1) := by decide +kernel
theorem dL_tells_348 : decode cL_tells 348 = .ok (.iconst 0, 1) := by decide +kernel
theorem dL_tells_349 : decode cL_tells 349 = .ok (.iaload, 1) := by decide +kernel
theorem dL_tells_350 : decode cL_tells 350 = .ok (.iload 6, 2) := by decide +kernel
theorem dL_tells_352 : decode cL_tells 352 = .ok (.isub, 1) := by decide +kernel
theorem dL_tells_353 : decode cL_tells 353 = .ok (.invokestatic 213, 3) := by decide +kernel
theorem dL_tells_356 : decode cL_tells 356 = .ok (.iadd, 1) := by decide +kernel
theorem dL_tells_357 : decode cL_tells 357 = .ok (.istore 7, 2) := by decide +kernel
theorem dL_tells_359 : decode cL_tells 359 = .ok (.iload 4, 2) := by decide +kernel
theorem dL_tells_361 : decode cL_tells 361 = .ok (.bipush 9, 2) := by decide +kernel
theorem dL_tells_363 : decode cL_tells 363 = .ok (.ishr, 1) := by decide +kernel
theorem dL_tells_364 : decode cL_tells 364 = .ok (.iload 7, 2) := by decide +kernel
theorem dL_tells_366 : decode cL_tells 366 = .ok (.iload 6, 2) := by decide +kernel
theorem dL_tells_368 : decode cL_tells 368 = .ok (.isub, 1) := by decide +kernel
theorem dL_tells_369 : decode cL_tells 369 = .ok (.iconst 1, 1) := by decide +kernel
theorem dL_tells_370 : decode cL_tells 370 = .ok (.iadd, 1) := by decide +kernel
theorem dL_tells_371 : decode cL_tells 371 = .ok (.invokestatic 213, 3) := by decide +kernel
theorem dL_tells_374 : decode cL_tells 374 = .ok (.istore 8, 2) := by decide +kernel
theorem dL_tells_376 : decode cL_tells 376 = .ok (.aload_n 0, 1) := by decide +kernel
theorem dL_tells_377 : decode cL_tells 377 = .ok (.invokevirtual 180, 3) := by decide +kernel
theorem dL_tells_380 : decode cL_tells 380 = .ok (.istore 9, 2) := by decide +kernel
theorem dL_tells_382 : decode cL_tells 382 = .ok (.aload_n 0, 1) := by decide +kernel
theorem dL_tells_383 : decode cL_tells 383 = .ok (.iload 6, 2) := by decide +kernel
theorem dL_tells_385 : decode cL_tells 385 = .ok (.iload 7, 2) := by decide +kernel
theorem dL_tells_387 : decode cL_tells 387 = .ok (.iload 8, 2) := by decide +kernel
theorem dL_tells_389 : decode cL_tells 389 = .ok (.invokestatic 318, 3) := by decide +kernel
theorem dL_tells_392 : decode cL_tells 392 = .ok (.istore 10, 2) := by decide +kernel
theorem dL_tells_394 : decode cL_tells 394 = .ok (.iload 10, 2) := by decide +kernel
theorem dL_tells_396 : decode cL_tells 396 = .ok (.ldc 21, 2) := by decide +kernel
theorem dL_tells_398 : decode cL_tells 398 = .ok (.if_icmp .ne 20, 3) := by decide +kernel
theorem dL_tells_401 : decode cL_tells 401 = .ok (.aload_n 0, 1) := by decide +kernel
theorem dL_tells_402 : decode cL_tells 402 = .ok (.invokevirtual 180, 3) := by decide +kernel
theorem dL_tells_405 : decode cL_tells 405 = .ok (.iload 9, 2) := by decide +kernel
theorem dL_tells_407 : decode cL_tells 407 = .ok (.if_icmp .ne 7, 3) := by decide +kernel
theorem dL_tells_410 : decode cL_tells 410 = .ok (.iconst 1, 1) := by decide +kernel
theorem dL_tells_411 : decode cL_tells 411 = .ok (.goto 37, 3) := by decide +kernel
theorem dL_tells_414 : decode cL_tells 414 = .ok (.iconst 0, 1) := by decide +kernel
theorem dL_tells_415 : decode cL_tells 415 = .ok (.goto 33, 3) := by decide +kernel
theorem dL_tells_418 : decode cL_tells 418 = .ok (.iload 10, 2) := by decide +kernel
theorem dL_tells_420 : decode cL_tells 420 = .ok (.ifCond .le 27, 3) := by decide +kernel
theorem dL_tells_423 : decode cL_tells 423 = .ok (.aload_n 0, 1) := by decide +kernel
theorem dL_tells_424 : decode cL_tells 424 = .ok (.invokevirtual 180, 3) := by decide +kernel
theorem dL_tells_427 : decode cL_tells 427 = .ok (.iload 9, 2) := by decide +kernel
theorem dL_tells_429 : decode cL_tells 429 = .ok (.iload 7, 2) := by decide +kernel
theorem dL_tells_431 : decode cL_tells 431 = .ok (.iadd, 1) := by decide +kernel
theorem dL_tells_432 : decode cL_tells 432 = .ok (.iload 6, 2) := by decide +kernel
theorem dL_tells_434 : decode cL_tells 434 = .ok (.isub, 1) := by decide +kernel
theorem dL_tells_435 : decode cL_tells 435 = .ok (.iconst 1, 1) := by decide +kernel
theorem dL_tells_436 : decode cL_tells 436 = .ok (.iadd, 1) := by decide +kernel
theorem dL_tells_437 : decode cL_tells 437 = .ok (.iload 8, 2) := by decide +kernel
theorem dL_tells_439 : decode cL_tells 439 = .ok (.isub, 1) := by decide +kernel
theorem dL_tells_440 : decode cL_tells 440 = .ok (.if_icmp .ne 7, 3) := by decide +kernel
theorem dL_tells_443 : decode cL_tells 443 = .ok (.iconst 1, 1) := by decide +kernel
theorem dL_tells_444 : decode cL_tells 444 = .ok (.goto 4, 3) := by decide +kernel
theorem dL_tells_447 : decode cL_tells 447 = .ok (.iconst 0, 1) := by decide +kernel
theorem dL_tells_448 : decode cL_tells 448 = .ok (.istore 11, 2) := by decide +kernel
theorem dL_tells_450 : decode cL_tells 450 = .ok (.iload 11, 2) := by decide +kernel
theorem dL_tells_452 : decode cL_tells 452 = .ok (.ifCond .eq 83, 3) := by decide +kernel
theorem dL_tells_455 : decode cL_tells 455 = .ok (.aload_n 0, 1) := by decide +kernel
theorem dL_tells_456 : decode cL_tells 456 = .ok (.iload 6, 2) := by decide +kernel
theorem dL_tells_458 : decode cL_tells 458 = .ok (.iload 7, 2) := by decide +kernel
theorem dL_tells_460 : decode cL_tells 460 = .ok (.iload 8, 2) := by decide +kernel
theorem dL_tells_462 : decode cL_tells 462 = .ok (.invokestatic 318, 3) := by decide +kernel
theorem dL_tells_465 : decode cL_tells 465 = .ok (.ldc 21, 2) := by decide +kernel
theorem dL_tells_467 : decode cL_tells 467 = .ok (.if_icmp .ne 68, 3) := by decide +kernel
theorem dL_tells_470 : decode cL_tells 470 = .ok (.aload_n 0, 1) := by decide +kernel
theorem dL_tells_471 : decode cL_tells 471 = .ok (.iload 6, 2) := by decide +kernel
theorem dL_tells_473 : decode cL_tells 473 = .ok (.iload 7, 2) := by decide +kernel
theorem dL_tells_475 : decode cL_tells 475 = .ok (.iload 7, 2) := by decide +kernel
theorem dL_tells_477 : decode cL_tells 477 = .ok (.iload 6, 2) := by decide +kernel
theorem dL_tells_479 : decode cL_tells 479 = .ok (.isub, 1) := by decide +kernel
theorem dL_tells_480 : decode cL_tells 480 = .ok (.iconst 1, 1) := by decide +kernel
theorem dL_tells_481 : decode cL_tells 481 = .ok (.iadd, 1) := by decide +kernel
theorem dL_tells_482 : decode cL_tells 482 = .ok (.invokestatic 318, 3) := by decide +kernel
theorem dL_tells_485 : decode cL_tells 485 = .ok (.ldc 18, 2) := by decide +kernel
theorem dL_tells_487 : decode cL_tells 487 = .ok (.if_icmp .ne 48, 3) := by decide +kernel
theorem dL_tells_490 : decode cL_tells 490 = .ok (.aload_n 0, 1) := by decide +kernel
theorem dL_tells_491 : decode cL_tells 491 = .ok (.iload 6, 2) := by decide +kernel
theorem dL_tells_493 : decode cL_tells 493 = .ok (.aload_n 1, 1) := by decide +kernel
theorem dL_tells_494 : decode cL_tells 494 = .ok (.iconst 0, 1) := by decide +kernel
theorem dL_tells_495 : decode cL_tells 495 = .ok (.iaload, 1) := by decide +kernel
theorem dL_tells_496 : decode cL_tells 496 = .ok (.iconst 0, 1) := by decide +kernel
theorem dL_tells_497 : decode cL_tells 497 = .ok (.invokestatic 318, 3) := by decide +kernel
theorem dL_tells_500 : decode cL_tells 500 = .ok (.ldc 28, 2) := by decide +kernel
theorem dL_tells_502 : decode cL_tells 502 = .ok (.if_icmp .ne 33, 3) := by decide +kernel
theorem dL_tells_505 : decode cL_tells 505 = .ok (.aload_n 0, 1) := by decide +kernel
theorem dL_tells_506 : decode cL_tells 506 = .ok (.iload 6, 2) := by decide +kernel
theorem dL_tells_508 : decode cL_tells 508 = .ok (.iload 6, 2) := by decide +kernel
theorem dL_tells_510 : decode cL_tells 510 = .ok (.iconst 1, 1) := by decide +kernel
theorem dL_tells_511 : decode cL_tells 511 = .ok (.isub, 1) := by decide +kernel
theorem dL_tells_512 : decode cL_tells 512 = .ok (.iconst 0, 1) := by decide +kernel
theorem dL_tells_513 : decode cL_tells 513 = .ok (.invokestatic 318, 3) := by decide +kernel
theorem dL_tells_516 : decode cL_tells 516 = .ok (.iload 6, 2) := by decide +kernel
theorem dL_tells_518 : decode cL_tells 518 = .ok (.ifCond .ne 8, 3) := by decide +kernel
theorem dL_tells_521 : decode cL_tells 521 = .ok (.ldc 28, 2) := by decide +kernel
theorem dL_tells_523 : decode cL_tells 523 = .ok (.goto 5, 3) := by decide +kernel
theorem dL_tells_526 : decode cL_tells 526 = .ok (.ldc 18, 2) := by decide +kernel
theorem dL_tells_528 : decode cL_tells 528 = .ok (.if_icmp .ne 7, 3) := by decide +kernel
theorem dL_tells_531 : decode cL_tells 531 = .ok (.iconst 1, 1) := by decide +kernel
theorem dL_tells_532 : decode cL_tells 532 = .ok (.goto 4, 3) := by decide +kernel
theorem dL_tells_535 : decode cL_tells 535 = .ok (.iconst 0, 1) := by decide +kernel
theorem dL_tells_536 : decode cL_tells 536 = .ok (.ireturn, 1) := by decide +kernel
theorem dL_tells_537 : decode cL_tells 537 = .ok (.iload 5, 2) := by decide +kernel
theorem dL_tells_539 : decode cL_tells 539 = .ok (.iconst 3, 1) := by decide +kernel
theorem dL_tells_540 : decode cL_tells 540 = .ok (.if_icmp .ne 81, 3) := by decide +kernel
theorem dL_tells_543 : decode cL_tells 543 = .ok (.aload_n 0, 1) := by decide +kernel
theorem dL_tells_544 : decode cL_tells 544 = .ok (.invokevirtual 180, 3) := by decide +kernel
theorem dL_tells_547 : decode cL_tells 547 = .ok (.istore 7, 2) := by decide +kernel
theorem dL_tells_549 : decode cL_tells 549 = .ok (.aload_n 0, 1) := by decide +kernel
theorem dL_tells_550 : decode cL_tells 550 = .ok (.iload 6, 2) := by decide +kernel
theorem dL_tells_552 : decode cL_tells 552 = .ok (.invokestatic 320, 3) := by decide +kernel
theorem dL_tells_555 : decode cL_tells 555 = .ok (.istore 8, 2) := by decide +kernel
theorem dL_tells_557 : decode cL_tells 557 = .ok (.iload 8, 2) := by decide +kernel
theorem dL_tells_559 : decode cL_tells 559 = .ok (.ldc 21, 2) := by decide +kernel
theorem dL_tells_561 : decode cL_tells 561 = .ok (.if_icmp .ne 15, 3) := by decide +kernel
theorem dL_tells_564 : decode cL_tells 564 = .ok (.aload_n 0, 1) := by decide +kernel
theorem dL_tells_565 : decode cL_tells 565 = .ok (.invokevirtual 180, 3) := by decide +kernel
theorem dL_tells_568 : decode cL_tells 568 = .ok (.iload 7, 2) := by decide +kernel
theorem dL_tells_570 : decode cL_tells 570 = .ok (.if_icmp .ne 49, 3) := by decide +kernel
theorem dL_tells_573 : decode cL_tells 573 = .ok (.goto 19, 3) := by decide +kernel
theorem dL_tells_576 : decode cL_tells 576 = .ok (.iload 8, 2) := by decide +kernel
theorem dL_tells_578 : decode cL_tells 578 = .ok (.iload 6, 2) := by decide +kernel
theorem dL_tells_580 : decode cL_tells 580 = .ok (.if_icmp .lt 39, 3) := by decide +kernel
theorem dL_tells_583 : decode cL_tells 583 = .ok (.aload_n 0, 1) := by decide +kernel
theorem dL_tells_584 : decode cL_tells 584 = .ok (.invokevirtual 180, 3) := by decide +kernel
theorem dL_tells_587 : decode cL_tells 587 = .ok (.iload 7, 2) := by decide +kernel
theorem dL_tells_589 : decode cL_tells 589 = .ok (.if_icmp .ge 30, 3) := by decide +kernel
theorem dL_tells_592 : decode cL_tells 592 = .ok (.aload_n 0, 1) := by decide +kernel
theorem dL_tells_593 : decode cL_tells 593 = .ok (.iload 6, 2) := by decide +kernel
theorem dL_tells_595 : decode cL_tells 595 = .ok (.invokestatic 320, 3) := by decide +kernel
theorem dL_tells_598 : decode cL_tells 598 = .ok (.ldc 21, 2) := by decide +kernel
theorem dL_tells_600 : decode cL_tells 600 = .ok (.if_icmp .ne 19, 3) := by decide +kernel
theorem dL_tells_603 : decode cL_tells 603 = .ok (.aload_n 0, 1) := by decide +kernel
theorem dL_tells_604 : decode cL_tells 604 = .ok (.aload_n 1, 1) := by decide +kernel
theorem dL_tells_605 : decode cL_tells 605 = .ok (.iconst 0, 1) := by decide +kernel
theorem dL_tells_606 : decode cL_tells 606 = .ok (.iaload, 1) := by decide +kernel
theorem dL_tells_607 : decode cL_tells 607 = .ok (.invokestatic 320, 3) := by decide +kernel
theorem dL_tells_610 : decode cL_tells 610 = .ok (.ldc 28, 2) := by decide +kernel
theorem dL_tells_612 : decode cL_tells 612 = .ok (.if_icmp .ne 7, 3) := by decide +kernel
theorem dL_tells_615 : decode cL_tells 615 = .ok (.iconst 1, 1) := by decide +kernel
theorem dL_tells_616 : decode cL_tells 616 = .ok (.goto 4, 3) := by decide +kernel
theorem dL_tells_619 : decode cL_tells 619 = .ok (.iconst 0, 1) := by decide +kernel
theorem dL_tells_620 : decode cL_tells 620 = .ok (.ireturn, 1) := by decide +kernel
theorem dL_tells_621 : decode cL_tells 621 = .ok (.iload 5, 2) := by decide +kernel
theorem dL_tells_623 : decode cL_tells 623 = .ok (.iconst 4, 1) := by decide +kernel
theorem dL_tells_624 : decode cL_tells 624 = .ok (.if_icmp .ne 83, 3) := by decide +kernel
theorem dL_tells_627 : decode cL_tells 627 = .ok (.iload 4, 2) := by decide +kernel
theorem dL_tells_629 : decode cL_tells 629 = .ok (.iconst 5, 1) := by decide +kernel
theorem dL_tells_630 : decode cL_tells 630 = .ok (.ishr, 1) := by decide +kernel
theorem dL_tells_631 : decode cL_tells 631 = .ok (.iconst 4, 1) := by decide +kernel
theorem dL_tells_632 : decode cL_tells 632 = .ok (.invokestatic 213, 3) := by decide +kernel
theorem dL_tells_635 : decode cL_tells 635 = .ok (.istore 7, 2) := by decide +kernel
theorem dL_tells_637 : decode cL_tells 637 = .ok (.iload 4, 2) := by decide +kernel
theorem dL_tells_639 : decode cL_tells 639 = .ok (.bipush 7, 2) := by decide +kernel
theorem dL_tells_641 : decode cL_tells 641 = .ok (.ishr, 1) := by decide +kernel
theorem dL_tells_642 : decode cL_tells 642 = .ok (.bipush 25, 2) := by decide +kernel
theorem dL_tells_644 : decode cL_tells 644 = .ok (.invokestatic 213, 3) := by decide +kernel
theorem dL_tells_647 : decode cL_tells 647 = .ok (.bipush 12, 2) := by decide +kernel
theorem dL_tells_649 : decode cL_tells 649 = .ok (.isub, 1) := by decide +kernel
theorem dL_tells_650 : decode cL_tells 650 = .ok (.istore 8, 2) := by decide +kernel
theorem dL_tells_652 : decode cL_tells 652 = .ok (.aload_n 2, 1) := by decide +kernel
theorem dL_tells_653 : decode cL_tells 653 = .ok (.iload 7, 2) := by decide +kernel
theorem dL_tells_655 : decode cL_tells 655 = .ok (.iaload, 1) := by decide +kernel
theorem dL_tells_656 : decode cL_tells 656 = .ok (.istore 9, 2) := by decide +kernel
theorem dL_tells_658 : decode cL_tells 658 = .ok (.aload_n 2, 1) := by decide +kernel
theorem dL_tells_659 : decode cL_tells 659 = .ok (.iload 7, 2) := by decide +kernel
theorem dL_tells_661 : decode cL_tells 661 = .ok (.iload 8, 2) := by decide +kernel
theorem dL_tells_663 : decode cL_tells 663 = .ok (.iastore, 1) := by decide +kernel
theorem dL_tells_664 : decode cL_tells 664 = .ok (.aload_n 0, 1) := by decide +kernel
theorem dL_tells_665 : decode cL_tells 665 = .ok (.iload 7, 2) := by decide +kernel
theorem dL_tells_667 : decode cL_tells 667 = .ok (.iload 8, 2) := by decide +kernel
theorem dL_tells_669 : decode cL_tells 669 = .ok (.invokestatic 322, 3) := by decide +kernel
theorem dL_tells_672 : decode cL_tells 672 = .ok (.iload 9, 2) := by decide +kernel
theorem dL_tells_674 : decode cL_tells 674 = .ok (.if_icmp .ne 31, 3) := by decide +kernel
theorem dL_tells_677 : decode cL_tells 677 = .ok (.aload_n 0, 1) := by decide +kernel
theorem dL_tells_678 : decode cL_tells 678 = .ok (.iload 7, 2) := by decide +kernel
theorem dL_tells_680 : decode cL_tells 680 = .ok (.bipush 13, 2) := by decide +kernel
theorem dL_tells_682 : decode cL_tells 682 = .ok (.invokestatic 322, 3) := by decide +kernel
theorem dL_tells_685 : decode cL_tells 685 = .ok (.ldc 18, 2) := by decide +kernel
theorem dL_tells_687 : decode cL_tells 687 = .ok (.if_icmp .ne 18, 3) := by decide +kernel
theorem dL_tells_690 : decode cL_tells 690 = .ok (.aload_n 0, 1) := by decide +kernel
theorem dL_tells_691 : decode cL_tells 691 = .ok (.iconst 4, 1) := by decide +kernel
theorem dL_tells_692 : decode cL_tells 692 = .ok (.iconst 0, 1) := by decide +kernel
theorem dL_tells_693 : decode cL_tells 693 = .ok (.invokestatic 322, 3) := by decide +kernel
theorem dL_tells_696 : decode cL_tells 696 = .ok (.ldc 18, 2) := by decide +kernel
theorem dL_tells_698 : decode cL_tells 698 = .ok (.if_icmp .ne 7, 3) := by decide +kernel
theorem dL_tells_701 : decode cL_tells 701 = .ok (.iconst 1, 1) := by decide +kernel
theorem dL_tells_702 : decode cL_tells 702 = .ok (.goto 4, 3) := by decide +kernel
theorem dL_tells_705 : decode cL_tells 705 = .ok (.iconst 0, 1) := by decide +kernel
theorem dL_tells_706 : decode cL_tells 706 = .ok (.ireturn, 1) := by decide +kernel
theorem dL_tells_707 : decode cL_tells 707 = .ok (.iload 5, 2) := by decide +kernel
theorem dL_tells_709 : decode cL_tells 709 = .ok (.iconst 5, 1) := by decide +kernel
theorem dL_tells_710 : decode cL_tells 710 = .ok (.if_icmp .ne 137, 3) := by decide +kernel
theorem dL_tells_713 : decode cL_tells 713 = .ok (.aload_n 1, 1) := by decide +kernel
theorem dL_tells_714 : decode cL_tells 714 = .ok (.iconst 1, 1) := by decide +kernel
theorem dL_tells_715 : decode cL_tells 715 = .ok (.bipush 40, 2) := by decide +kernel
theorem dL_tells_717 : decode cL_tells 717 = .ok (.iload 4, 2) := by decide +kernel
theorem dL_tells_719 : decode cL_tells 719 = .ok (.sipush 361, 3) := by decide +kernel
theorem dL_tells_722 : decode cL_tells 722 = .ok (.invokestatic 213, 3) := by decide +kernel
theorem dL_tells_725 : decode cL_tells 725 = .ok (.iadd, 1) := by decide +kernel
theorem dL_tells_726 : decode cL_tells 726 = .ok (.iastore, 1) := by decide +kernel
theorem dL_tells_727 : decode cL_tells 727 = .ok (.aload_n 1, 1) := by decide +kernel
theorem dL_tells_728 : decode cL_tells 728 = .ok (.iconst 2, 1) := by decide +kernel
theorem dL_tells_729 : decode cL_tells 729 = .ok (.iconst 1, 1) := by decide +kernel
theorem dL_tells_730 : decode cL_tells 730 = .ok (.iload 4, 2) := by decide +kernel
theorem dL_tells_732 : decode cL_tells 732 = .ok (.bipush 9, 2) := by decide +kernel
theorem dL_tells_734 : decode cL_tells 734 = .ok (.ishr, 1) := by decide +kernel
theorem dL_tells_735 : decode cL_tells 735 = .ok (.bipush 6, 2) := by decide +kernel
theorem dL_tells_737 : decode cL_tells 737 = .ok (.invokestatic 213, 3) := by decide +kernel
theorem dL_tells_740 : decode cL_tells 740 = .ok (.iadd, 1) := by decide +kernel
theorem dL_tells_741 : decode cL_tells 741 = .ok (.iastore, 1) := by decide +kernel
theorem dL_tells_742 : decode cL_tells 742 = .ok (.aload_n 1, 1) := by decide +kernel
theorem dL_tells_743 : decode cL_tells 743 = .ok (.iconst 3, 1) := by decide +kernel
theorem dL_tells_744 : decode cL_tells 744 = .ok (.iload 4, 2) := by decide +kernel
theorem dL_tells_746 : decode cL_tells 746 = .ok (.bipush 12, 2) := by decide +kernel
theorem dL_tells_748 : decode cL_tells 748 = .ok (.ishr, 1) := by decide +kernel
theorem dL_tells_749 : decode cL_tells 749 = .ok (.sipush 4000, 3) := by decide +kernel
theorem dL_tells_752 : decode cL_tells 752 = .ok (.invokestatic 213, 3) := by decide +kernel
theorem dL_tells_755 : decode cL_tells 755 = .ok (.iastore, 1) := by decide +kernel
theorem dL_tells_756 : decode cL_tells 756 = .ok (.aload_n 0, 1) := by decide +kernel
theorem dL_tells_757 : decode cL_tells 757 = .ok (.aload_n 1, 1) := by decide +kernel
theorem dL_tells_758 : decode cL_tells 758 = .ok (.iconst 1, 1) := by decide +kernel
theorem dL_tells_759 : decode cL_tells 759 = .ok (.iaload, 1) := by decide +kernel
theorem dL_tells_760 : decode cL_tells 760 = .ok (.aload_n 1, 1) := by decide +kernel
theorem dL_tells_761 : decode cL_tells 761 = .ok (.iconst 2, 1) := by decide +kernel
theorem dL_tells_762 : decode cL_tells 762 = .ok (.iaload, 1) := by decide +kernel
theorem dL_tells_763 : decode cL_tells 763 = .ok (.aload_n 1, 1) := by decide +kernel
theorem dL_tells_764 : decode cL_tells 764 = .ok (.iconst 3, 1) := by decide +kernel
theorem dL_tells_765 : decode cL_tells 765 = .ok (.iaload, 1) := by decide +kernel
theorem dL_tells_766 : decode cL_tells 766 = .ok (.invokestatic 324, 3) := by decide +kernel
theorem dL_tells_769 : decode cL_tells 769 = .ok (.ifCond .ne 76, 3) := by decide +kernel
theorem dL_tells_772 : decode cL_tells 772 = .ok (.aload_n 0, 1) := by decide +kernel
theorem dL_tells_773 : decode cL_tells 773 = .ok (.bipush 39, 2) := by decide +kernel
theorem dL_tells_775 : decode cL_tells 775 = .ok (.iconst 1, 1) := by decide +kernel
theorem dL_tells_776 : decode cL_tells 776 = .ok (.iconst 0, 1) := by decide +kernel
theorem dL_tells_777 : decode cL_tells 777 = .ok (.invokestatic 324, 3) := by decide +kernel
theorem dL_tells_780 : decode cL_tells 780 = .ok (.ldc 18, 2) := by decide +kernel
theorem dL_tells_782 : decode cL_tells 782 = .ok (.if_icmp .ne 63, 3) := by decide +kernel
theorem dL_tells_785 : decode cL_tells 785 = .ok (.aload_n 0, 1) := by decide +kernel
theorem dL_tells_786 : decode cL_tells 786 = .ok (.sipush 401, 3) := by decide +kernel
theorem dL_tells_789 : decode cL_tells 789 = .ok (.iconst 1, 1) := by decide +kernel
theorem dL_tells_790 : decode cL_tells 790 = .ok (.iconst 0, 1) := by decide +kernel
theorem dL_tells_791 : decode cL_tells 791 = .ok (.invokestatic 324, 3) := by decide +kernel
theorem dL_tells_794 : decode cL_tells 794 = .ok (.ldc 18, 2) := by decide +kernel
theorem dL_tells_796 : decode cL_tells 796 = .ok (.if_icmp .ne 49, 3) := by decide +kernel
theorem dL_tells_799 : decode cL_tells 799 = .ok (.aload_n 0, 1) := by decide +kernel
theorem dL_tells_800 : decode cL_tells 800 = .ok (.bipush 40, 2) := by decide +kernel
theorem dL_tells_802 : decode cL_tells 802 = .ok (.iconst 0, 1) := by decide +kernel
theorem dL_tells_803 : decode cL_tells 803 = .ok (.iconst 0, 1) := by decide +kernel
theorem dL_tells_804 : decode cL_tells 804 = .ok (.invokestatic 324, 3) := by decide +kernel
theorem dL_tells_807 : decode cL_tells 807 = .ok (.ldc 18, 2) := by decide +kernel
theorem dL_tells_809 : decode cL_tells 809 = .ok (.if_icmp .ne 36, 3) := by decide +kernel
theorem dL_tells_812 : decode cL_tells 812 = .ok (.aload_n 0, 1) := by decide +kernel
theorem dL_tells_813 : decode cL_tells 813 = .ok (.bipush 40, 2) := by decide +kernel
theorem dL_tells_815 : decode cL_tells 815 = .ok (.bipush 7, 2) := by decide +kernel
theorem dL_tells_817 : decode cL_tells 817 = .ok (.iconst 0, 1) := by decide +kernel
theorem dL_tells_818 : decode cL_tells 818 = .ok (.invokestatic 324, 3) := by decide +kernel
theorem dL_tells_821 : decode cL_tells 821 = .ok (.ldc 18, 2) := by decide +kernel
theorem dL_tells_823 : decode cL_tells 823 = .ok (.if_icmp .ne 22, 3) := by decide +kernel
theorem dL_tells_826 : decode cL_tells 826 = .ok (.aload_n 0, 1) := by decide +kernel
theorem dL_tells_827 : decode cL_tells 827 = .ok (.bipush 40, 2) := by decide +kernel
theorem dL_tells_829 : decode cL_tells 829 = .ok (.iconst 1, 1) := by decide +kernel
theorem dL_tells_830 : decode cL_tells 830 = .ok (.sipush 20001, 3) := by decide +kernel
theorem dL_tells_833 : decode cL_tells 833 = .ok (.invokestatic 324, 3) := by decide +kernel
theorem dL_tells_836 : decode cL_tells 836 = .ok (.ldc 18, 2) := by decide +kernel
theorem dL_tells_838 : decode cL_tells 838 = .ok (.if_icmp .ne 7, 3) := by decide +kernel
theorem dL_tells_841 : decode cL_tells 841 = .ok (.iconst 1, 1) := by decide +kernel
theorem dL_tells_842 : decode cL_tells 842 = .ok (.goto 4, 3) := by decide +kernel
theorem dL_tells_845 : decode cL_tells 845 = .ok (.iconst 0, 1) := by decide +kernel
theorem dL_tells_846 : decode cL_tells 846 = .ok (.ireturn, 1) := by decide +kernel
theorem dL_tells_847 : decode cL_tells 847 = .ok (.iload 4, 2) := by decide +kernel
theorem dL_tells_849 : decode cL_tells 849 = .ok (.iconst 5, 1) := by decide +kernel
theorem dL_tells_850 : decode cL_tells 850 = .ok (.ishr, 1) := by decide +kernel
theorem dL_tells_851 : decode cL_tells 851 = .ok (.iconst 4, 1) := by decide +kernel
theorem dL_tells_852 : decode cL_tells 852 = .ok (.invokestatic 213, 3) := by decide +kernel
theorem dL_tells_855 : decode cL_tells 855 = .ok (.istore 7, 2) := by decide +kernel
theorem dL_tells_857 : decode cL_tells 857 = .ok (.iload 5, 2) := by decide +kernel
theorem dL_tells_859 : decode cL_tells 859 = .ok (.bipush 6, 2) := by decide +kernel
theorem dL_tells_861 : decode cL_tells 861 = .ok (.if_icmp .ne 95, 3) := by decide +kernel
theorem dL_tells_864 : decode cL_tells 864 = .ok (.iload 4, 2) := by decide +kernel
theorem dL_tells_866 : decode cL_tells 866 = .ok (.bipush 7, 2) := by decide +kernel
theorem dL_tells_868 : decode cL_tells 868 = .ok (.ishr, 1) := by decide +kernel
theorem dL_tells_869 : decode cL_tells 869 = .ok (.iconst 2, 1) := by decide +kernel
theorem dL_tells_870 : decode cL_tells 870 = .ok (.invokestatic 213, 3) := by decide +kernel
theorem dL_tells_873 : decode cL_tells 873 = .ok (.ifCond .ne 7, 3) := by decide +kernel
theorem dL_tells_876 : decode cL_tells 876 = .ok (.iconst 1, 1) := by decide +kernel
theorem dL_tells_877 : decode cL_tells 877 = .ok (.goto 4, 3) := by decide +kernel
theorem dL_tells_880 : decode cL_tells 880 = .ok (.iconst 0, 1) := by decide +kernel
theorem dL_tells_881 : decode cL_tells 881 = .ok (.istore 8, 2) := by decide +kernel
theorem dL_tells_883 : decode cL_tells 883 = .ok (.aload_n 0, 1) := by decide +kernel
theorem dL_tells_884 : decode cL_tells 884 = .ok (.iload 7, 2) := by decide +kernel
theorem dL_tells_886 : decode cL_tells 886 = .ok (.iload 6, 2) := by decide +kernel
theorem dL_tells_888 : decode cL_tells 888 = .ok (.iload 8, 2) := by decide +kernel
theorem dL_tells_890 : decode cL_tells 890 = .ok (.invokestatic 326, 3) := by decide +kernel
theorem dL_tells_893 : decode cL_tells 893 = .ok (.istore 9, 2) := by decide +kernel
theorem dL_tells_895 : decode cL_tells 895 = .ok (.iload 9, 2) := by decide +kernel
theorem dL_tells_897 : decode cL_tells 897 = .ok (.ifCond .lt 57, 3) := by decide +kernel
theorem dL_tells_900 : decode cL_tells 900 = .ok (.aload_n 0, 1) := by decide +kernel
theorem dL_tells_901 : decode cL_tells 901 = .ok (.iload 7, 2) := by decide +kernel
theorem dL_tells_903 : decode cL_tells 903 = .ok (.iload 6, 2) := by decide +kernel
theorem dL_tells_905 : decode cL_tells 905 = .ok (.iload 8, 2) := by decide +kernel
theorem dL_tells_907 : decode cL_tells 907 = .ok (.invokestatic 326, 3) := by decide +kernel
theorem dL_tells_910 : decode cL_tells 910 = .ok (.iload 8, 2) := by decide +kernel
theorem dL_tells_912 : decode cL_tells 912 = .ok (.ifCond .eq 7, 3) := by decide +kernel
theorem dL_tells_915 : decode cL_tells 915 = .ok (.iconst 1, 1) := by decide +kernel
theorem dL_tells_916 : decode cL_tells 916 = .ok (.goto 4, 3) := by decide +kernel
theorem dL_tells_919 : decode cL_tells 919 = .ok (.iconst 0, 1) := by decide +kernel
theorem dL_tells_920 : decode cL_tells 920 = .ok (.if_icmp .ne 34, 3) := by decide +kernel
theorem dL_tells_923 : decode cL_tells 923 = .ok (.aload_n 0, 1) := by decide +kernel
theorem dL_tells_924 : decode cL_tells 924 = .ok (.iconst 4, 1) := by decide +kernel
theorem dL_tells_925 : decode cL_tells 925 = .ok (.iload 6, 2) := by decide +kernel
theorem dL_tells_927 : decode cL_tells 927 = .ok (.iconst 1, 1) := by decide +kernel
theorem dL_tells_928 : decode cL_tells 928 = .ok (.invokestatic 326, 3) := by decide +kernel
theorem dL_tells_931 : decode cL_tells 931 = .ok (.ldc 18, 2) := by decide +kernel
theorem dL_tells_933 : decode cL_tells 933 = .ok (.if_icmp .ne 21, 3) := by decide +kernel
theorem dL_tells_936 : decode cL_tells 936 = .ok (.aload_n 0, 1) := by decide +kernel
theorem dL_tells_937 : decode cL_tells 937 = .ok (.iconst 0, 1) := by decide +kernel
theorem dL_tells_938 : decode cL_tells 938 = .ok (.aload_n 1, 1) := by decide +kernel
theorem dL_tells_939 : decode cL_tells 939 = .ok (.iconst 0, 1) := by decide +kernel
theorem dL_tells_940 : decode cL_tells 940 = .ok (.iaload, 1) := by decide +kernel
theorem dL_tells_941 : decode cL_tells 941 = .ok (.iconst 1, 1) := by decide +kernel
theorem dL_tells_942 : decode cL_tells 942 = .ok (.invokestatic 326, 3) := by decide +kernel
theorem dL_tells_945 : decode cL_tells 945 = .ok (.ldc 28, 2) := by decide +kernel
theorem dL_tells_947 : decode cL_tells 947 = .ok (.if_icmp .ne 7, 3) := by decide +kernel
theorem dL_tells_950 : decode cL_tells 950 = .ok (.iconst 1, 1) := by decide +kernel
theorem dL_tells_951 : decode cL_tells 951 = .ok (.goto 4, 3) := by decide +kernel
theorem dL_tells_954 : decode cL_tells 954 = .ok (.iconst 0, 1) := by decide +kernel
theorem dL_tells_955 : decode cL_tells 955 = .ok (.ireturn, 1) := by decide +kernel
theorem dL_tells_956 : decode cL_tells 956 = .ok (.aload_n 0, 1) := by decide +kernel
theorem dL_tells_957 : decode cL_tells 957 = .ok (.iload 7, 2) := by decide +kernel
theorem dL_tells_959 : decode cL_tells 959 = .ok (.iload 6, 2) := by decide +kernel
theorem dL_tells_961 : decode cL_tells 961 = .ok (.invokestatic 236, 3) := by decide +kernel
theorem dL_tells_964 : decode cL_tells 964 = .ok (.istore 8, 2) := by decide +kernel
theorem dL_tells_966 : decode cL_tells 966 = .ok (.aload_n 0, 1) := by decide +kernel
theorem dL_tells_967 : decode cL_tells 967 = .ok (.invokevirtual 329, 3) := by decide +kernel
theorem dL_tells_970 : decode cL_tells 970 = .ok (.istore 9, 2) := by decide +kernel
theorem dL_tells_972 : decode cL_tells 972 = .ok (.iload 8, 2) := by decide +kernel
theorem dL_tells_974 : decode cL_tells 974 = .ok (.iconst 2, 1) := by decide +kernel
theorem dL_tells_975 : decode cL_tells 975 = .ok (.if_icmp .ge 52, 3) := by decide +kernel
theorem dL_tells_978 : decode cL_tells 978 = .ok (.aload_n 0, 1) := by decide +kernel
theorem dL_tells_979 : decode cL_tells 979 = .ok (.iload 7, 2) := by decide +kernel
theorem dL_tells_981 : decode cL_tells 981 = .ok (.iload 6, 2) := by decide +kernel
theorem dL_tells_983 : decode cL_tells 983 = .ok (.iconst 0, 1) := by decide +kernel
theorem dL_tells_984 : decode cL_tells 984 = .ok (.iload 6, 2) := by decide +kernel
theorem dL_tells_986 : decode cL_tells 986 = .ok (.iconst 0, 1) := by decide +kernel
theorem dL_tells_987 : decode cL_tells 987 = .ok (.invokestatic 332, 3) := by decide +kernel
theorem dL_tells_990 : decode cL_tells 990 = .ok (.iload 8, 2) := by decide +kernel
theorem dL_tells_992 : decode cL_tells 992 = .ok (.ifCond .ne 8, 3) := by decide +kernel
theorem dL_tells_995 : decode cL_tells 995 = .ok (.ldc 28, 2) := by decide +kernel
theorem dL_tells_997 : decode cL_tells 997 = .ok (.goto 5, 3) := by decide +kernel
theorem dL_tells_1000 : decode cL_tells 1000 = .ok (.ldc 21, 2) := by decide +kernel
theorem dL_tells_1002 : decode cL_tells 1002 = .ok (.if_icmp .ne 23, 3) := by decide +kernel
theorem dL_tells_1005 : decode cL_tells 1005 = .ok (.aload_n 0, 1) := by decide +kernel
theorem dL_tells_1006 : decode cL_tells 1006 = .ok (.iconst 4, 1) := by decide +kernel
theorem dL_tells_1007 : decode cL_tells 1007 = .ok (.iload 6, 2) := by decide +kernel
theorem dL_tells_1009 : decode cL_tells 1009 = .ok (.iconst 0, 1) := by decide +kernel
theorem dL_tells_1010 : decode cL_tells 1010 = .ok (.iload 6, 2) := by decide +kernel
theorem dL_tells_1012 : decode cL_tells 1012 = .ok (.iconst 0, 1) := by decide +kernel
theorem dL_tells_1013 : decode cL_tells 1013 = .ok (.invokestatic 332, 3) := by decide +kernel
theorem dL_tells_1016 : decode cL_tells 1016 = .ok (.ldc 18, 2) := by decide +kernel
theorem dL_tells_1018 : decode cL_tells 1018 = .ok (.if_icmp .ne 7, 3) := by decide +kernel
theorem dL_tells_1021 : decode cL_tells 1021 = .ok (.iconst 1, 1) := by decide +kernel
theorem dL_tells_1022 : decode cL_tells 1022 = .ok (.goto 4, 3) := by decide +kernel
theorem dL_tells_1025 : decode cL_tells 1025 = .ok (.iconst 0, 1) := by decide +kernel
theorem dL_tells_1026 : decode cL_tells 1026 = .ok (.ireturn, 1) := by decide +kernel
theorem dL_tells_1027 : decode cL_tells 1027 = .ok (.aload_n 0, 1) := by decide +kernel
theorem dL_tells_1028 : decode cL_tells 1028 = .ok (.iload 7, 2) := by decide +kernel
theorem dL_tells_1030 : decode cL_tells 1030 = .ok (.iload 6, 2) := by decide +kernel
theorem dL_tells_1032 : decode cL_tells 1032 = .ok (.iconst 0, 1) := by decide +kernel
theorem dL_tells_1033 : decode cL_tells 1033 = .ok (.iload 6, 2) := by decide +kernel
theorem dL_tells_1035 : decode cL_tells 1035 = .ok (.iload 8, 2) := by decide +kernel
theorem dL_tells_1037 : decode cL_tells 1037 = .ok (.iconst 1, 1) := by decide +kernel
theorem dL_tells_1038 : decode cL_tells 1038 = .ok (.isub, 1) := by decide +kernel
theorem dL_tells_1039 : decode cL_tells 1039 = .ok (.invokestatic 332, 3) := by decide +kernel
theorem dL_tells_1042 : decode cL_tells 1042 = .ok (.istore 10, 2) := by decide +kernel
theorem dL_tells_1044 : decode cL_tells 1044 = .ok (.iload 10, 2) := by decide +kernel
theorem dL_tells_1046 : decode cL_tells 1046 = .ok (.ldc 21, 2) := by decide +kernel
theorem dL_tells_1048 : decode cL_tells 1048 = .ok (.if_icmp .ne 20, 3) := by decide +kernel
theorem dL_tells_1051 : decode cL_tells 1051 = .ok (.aload_n 0, 1) := by decide +kernel
theorem dL_tells_1052 : decode cL_tells 1052 = .ok (.invokevirtual 329, 3) := by decide +kernel
theorem dL_tells_1055 : decode cL_tells 1055 = .ok (.iload 9, 2) := by decide +kernel
theorem dL_tells_1057 : decode cL_tells 1057 = .ok (.if_icmp .ne 7, 3) := by decide +kernel
theorem dL_tells_1060 : decode cL_tells 1060 = .ok (.iconst 1, 1) := by decide +kernel
theorem dL_tells_1061 : decode cL_tells 1061 = .ok (.goto 61, 3) := by decide +kernel
theorem dL_tells_1064 : decode cL_tells 1064 = .ok (.iconst 0, 1) := by decide +kernel
theorem dL_tells_1065 : decode cL_tells 1065 = .ok (.goto 57, 3) := by decide +kernel
theorem dL_tells_1068 : decode cL_tells 1068 = .ok (.aload_n 0, 1) := by decide +kernel
theorem dL_tells_1069 : decode cL_tells 1069 = .ok (.invokevirtual 329, 3) := by decide +kernel
theorem dL_tells_1072 : decode cL_tells 1072 = .ok (.iload 9, 2) := by decide +kernel
theorem dL_tells_1074 : decode cL_tells 1074 = .ok (.iconst 1, 1) := by decide +kernel
theorem dL_tells_1075 : decode cL_tells 1075 = .ok (.iadd, 1) := by decide +kernel
theorem dL_tells_1076 : decode cL_tells 1076 = .ok (.if_icmp .ne 45, 3) := by decide +kernel
theorem dL_tells_1079 : decode cL_tells 1079 = .ok (.iload_n 3, 1) := by decide +kernel
theorem dL_tells_1080 : decode cL_tells 1080 = .ok (.iconst 3, 1) := by decide +kernel
theorem dL_tells_1081 : decode cL_tells 1081 = .ok (.ishr, 1) := by decide +kernel
theorem dL_tells_1082 : decode cL_tells 1082 = .ok (.iconst 2, 1) := by decide +kernel
theorem dL_tells_1083 : decode cL_tells 1083 = .ok (.invokestatic 213, 3) := by decide +kernel
theorem dL_tells_1086 : decode cL_tells 1086 = .ok (.ifCond .gt 31, 3) := by decide +kernel
theorem dL_tells_1089 : decode cL_tells 1089 = .ok (.aload_n 0, 1) := by decide +kernel
theorem dL_tells_1090 : decode cL_tells 1090 = .ok (.iload 10, 2) := by decide +kernel
theorem dL_tells_1092 : decode cL_tells 1092 = .ok (.invokestatic 335, 3) := by decide +kernel
theorem dL_tells_1095 : decode cL_tells 1095 = .ok (.iconst 1, 1) := by decide +kernel
theorem dL_tells_1096 : decode cL_tells 1096 = .ok (.if_icmp .ne 25, 3) := by decide +kernel
theorem dL_tells_1099 : decode cL_tells 1099 = .ok (.aload_n 0, 1) := by decide +kernel
theorem dL_tells_1100 : decode cL_tells 1100 = .ok (.iload 10, 2) := by decide +kernel
theorem dL_tells_1102 : decode cL_tells 1102 = .ok (.invokestatic 335, 3) := by decide +kernel
theorem dL_tells_1105 : decode cL_tells 1105 = .ok (.ifCond .ne 16, 3) := by decide +kernel
theorem dL_tells_1108 : decode cL_tells 1108 = .ok (.aload_n 0, 1) := by decide +kernel
theorem dL_tells_1109 : decode cL_tells 1109 = .ok (.invokevirtual 329, 3) := by decide +kernel
theorem dL_tells_1112 : decode cL_tells 1112 = .ok (.iload 9, 2) := by decide +kernel
theorem dL_tells_1114 : decode cL_tells 1114 = .ok (.if_icmp .ne 7, 3) := by decide +kernel
theorem dL_tells_1117 : decode cL_tells 1117 = .ok (.iconst 1, 1) := by decide +kernel
theorem dL_tells_1118 : decode cL_tells 1118 = .ok (.goto 4, 3) := by decide +kernel
theorem dL_tells_1121 : decode cL_tells 1121 = .ok (.iconst 0, 1) := by decide +kernel
theorem dL_tells_1122 : decode cL_tells 1122 = .ok (.istore 11, 2) := by decide +kernel
theorem dL_tells_1124 : decode cL_tells 1124 = .ok (.iload 11, 2) := by decide +kernel
theorem dL_tells_1126 : decode cL_tells 1126 = .ok (.ifCond .eq 56, 3) := by decide +kernel
theorem dL_tells_1129 : decode cL_tells 1129 = .ok (.aload_n 0, 1) := by decide +kernel
theorem dL_tells_1130 : decode cL_tells 1130 = .ok (.iload 7, 2) := by decide +kernel
theorem dL_tells_1132 : decode cL_tells 1132 = .ok (.iload 6, 2) := by decide +kernel
theorem dL_tells_1134 : decode cL_tells 1134 = .ok (.iload 8, 2) := by decide +kernel
theorem dL_tells_1136 : decode cL_tells 1136 = .ok (.iconst 1, 1) := by decide +kernel
theorem dL_tells_1137 : decode cL_tells 1137 = .ok (.isub, 1) := by decide +kernel
theorem dL_tells_1138 : decode cL_tells 1138 = .ok (.iload 6, 2) := by decide +kernel
theorem dL_tells_1140 : decode cL_tells 1140 = .ok (.iconst 0, 1) := by decide +kernel
theorem dL_tells_1141 : decode cL_tells 1141 = .ok (.invokestatic 332, 3) := by decide +kernel
theorem dL_tells_1144 : decode cL_tells 1144 = .ok (.ldc 21, 2) := by decide +kernel
theorem dL_tells_1146 : decode cL_tells 1146 = .ok (.if_icmp .ne 36, 3) := by decide +kernel
theorem dL_tells_1149 : decode cL_tells 1149 = .ok (.aload_n 0, 1) := by decide +kernel
theorem dL_tells_1150 : decode cL_tells 1150 = .ok (.iload 7, 2) := by decide +kernel
theorem dL_tells_1152 : decode cL_tells 1152 = .ok (.iload 6, 2) := by decide +kernel
theorem dL_tells_1154 : decode cL_tells 1154 = .ok (.iconst 0, 1) := by decide +kernel
theorem dL_tells_1155 : decode cL_tells 1155 = .ok (.iload 6, 2) := by decide +kernel
theorem dL_tells_1157 : decode cL_tells 1157 = .ok (.iload 8, 2) := by decide +kernel
theorem dL_tells_1159 : decode cL_tells 1159 = .ok (.invokestatic 332, 3) := by decide +kernel
theorem dL_tells_1162 : decode cL_tells 1162 = .ok (.ldc 28, 2) := by decide +kernel
theorem dL_tells_1164 : decode cL_tells 1164 = .ok (.if_icmp .ne 18, 3) := by decide +kernel
theorem dL_tells_1167 : decode cL_tells 1167 = .ok (.aload_n 0, 1) := by decide +kernel
theorem dL_tells_1168 : decode cL_tells 1168 = .ok (.bipush 20, 2) := by decide +kernel
theorem dL_tells_1170 : decode cL_tells 1170 = .ok (.invokestatic 335, 3) := by decide +kernel
theorem dL_tells_1173 : decode cL_tells 1173 = .ok (.ldc 28, 2) := by decide +kernel
theorem dL_tells_1175 : decode cL_tells 1175 = .ok (.if_icmp .ne 7, 3) := by decide +kernel
theorem dL_tells_1178 : decode cL_tells 1178 = .ok (.iconst 1, 1) := by decide +kernel
theorem dL_tells_1179 : decode cL_tells 1179 = .ok (.goto 4, 3) := by decide +kernel
theorem dL_tells_1182 : decode cL_tells 1182 = .ok (.iconst 0, 1) := by decide +kernel
theorem dL_tells_1183 : decode cL_tells 1183 = .ok (.ireturn, 1) := by decide +kernel
theorem dL_acts_0 : decode cL_acts 0 = .ok (.aload_n 1, 1) := by decide +kernel
theorem dL_acts_1 : decode cL_acts 1 = .ok (.iconst 0, 1) := by decide +kernel
theorem dL_acts_2 : decode cL_acts 2 = .ok (.iaload, 1) := by decide +kernel
theorem dL_acts_3 : decode cL_acts 3 = .ok (.iconst 3, 1) := by decide +kernel
theorem dL_acts_4 : decode cL_acts 4 = .ok (.if_icmp .lt 12, 3) := by decide +kernel
theorem dL_acts_7 : decode cL_acts 7 = .ok (.iload_n 3, 1) := by decide +kernel
theorem dL_acts_8 : decode cL_acts 8 = .ok (.bipush 16, 2) := by decide +kernel
theorem dL_acts_10 : decode cL_acts 10 = .ok (.invokestatic 213, 3) := by decide +kernel
theorem dL_acts_13 : decode cL_acts 13 = .ok (.ifCond .ne 151, 3) := by decide +kernel
theorem dL_acts_16 : decode cL_acts 16 = .ok (.iconst 1, 1) := by decide +kernel
theorem dL_acts_17 : decode cL_acts 17 = .ok (.iload 4, 2) := by decide +kernel
theorem dL_acts_19 : decode cL_acts 19 = .ok (.bipush 9, 2) := by decide +kernel
theorem dL_acts_21 : decode cL_acts 21 = .ok (.invokestatic 213, 3) := by decide +kernel
theorem dL_acts_24 : decode cL_acts 24 = .ok (.iadd, 1) := by decide +kernel
theorem dL_acts_25 : decode cL_acts 25 = .ok (.istore 5, 2) := by decide +kernel
theorem dL_acts_27 : decode cL_acts 27 = .ok (.iconst 2, 1) := by decide +kernel
theorem dL_acts_28 : decode cL_acts 28 = .ok (.iload 4, 2) := by decide +kernel
theorem dL_acts_30 : decode cL_acts 30 = .ok (.iconst 4, 1) := by decide +kernel
theorem dL_acts_31 : decode cL_acts 31 = .ok (.ishr, 1) := by decide +kernel
theorem dL_acts_32 : decode cL_acts 32 = .ok (.iconst 3, 1) := by decide +kernel
theorem dL_acts_33 : decode cL_acts 33 = .ok (.invokestatic 213, 3) := by decide +kernel
theorem dL_acts_36 : decode cL_acts 36 = .ok (.ishl, 1) := by decide +kernel
theorem dL_acts_37 : decode cL_acts 37 = .ok (.istore 6, 2) := by decide +kernel
theorem dL_acts_39 : decode cL_acts 39 = .ok (.aload_n 1, 1) := by decide +kernel
theorem dL_acts_40 : decode cL_acts 40 = .ok (.iconst 0, 1) := by decide +kernel
theorem dL_acts_41 : decode cL_acts 41 = .ok (.iaload, 1) := by decide +kernel
theorem dL_acts_42 : decode cL_acts 42 = .ok (.bipush 24, 2) := by decide +kernel
theorem dL_acts_44 : decode cL_acts 44 = .ok (.if_icmp .ge 9, 3) := by decide +kernel
theorem dL_acts_47 : decode cL_acts 47 = .ok (.aload_n 1, 1) := by decide +kernel
theorem dL_acts_48 : decode cL_acts 48 = .ok (.iconst 0, 1) := by decide +kernel
theorem dL_acts_49 : decode cL_acts 49 = .ok (.iaload, 1) := by decide +kernel
theorem dL_acts_50 : decode cL_acts 50 = .ok (.goto 5, 3) := by decide +kernel
theorem dL_acts_53 : decode cL_acts 53 = .ok (.ldc 21, 2) := by decide +kernel
theorem dL_acts_55 : decode cL_acts 55 = .ok (.istore 7, 2) := by decide +kernel
theorem dL_acts_57 : decode cL_acts 57 = .ok (.aload_n 1, 1) := by decide +kernel
theorem dL_acts_58 : decode cL_acts 58 = .ok (.iconst 0, 1) := by decide +kernel
theorem dL_acts_59 : decode cL_acts 59 = .ok (.dup2, 1) := by decide +kernel
theorem dL_acts_60 : decode cL_acts 60 = .ok (.iaload, 1) := by decide +kernel
theorem dL_acts_61 : decode cL_acts 61 = .ok (.iload 7, 2) := by decide +kernel
theorem dL_acts_63 : decode cL_acts 63 = .ok (.ifCond .ge 7, 3) := by decide +kernel
theorem dL_acts_66 : decode cL_acts 66 = .ok (.iconst 0, 1) := by decide +kernel
theorem dL_acts_67 : decode cL_acts 67 = .ok (.goto 4, 3) := by decide +kernel
theorem dL_acts_70 : decode cL_acts 70 = .ok (.iconst 1, 1) := by decide +kernel
theorem dL_acts_71 : decode cL_acts 71 = .ok (.iadd, 1) := by decide +kernel
theorem dL_acts_72 : decode cL_acts 72 = .ok (.iastore, 1) := by decide +kernel
theorem dL_acts_73 : decode cL_acts 73 = .ok (.aload_n 0, 1) := by decide +kernel
theorem dL_acts_74 : decode cL_acts 74 = .ok (.iload 5, 2) := by decide +kernel
theorem dL_acts_76 : decode cL_acts 76 = .ok (.iload 6, 2) := by decide +kernel
theorem dL_acts_78 : decode cL_acts 78 = .ok (.invokestatic 337, 3) := by decide +kernel
theorem dL_acts_81 : decode cL_acts 81 = .ok (.iload 7, 2) := by decide +kernel
theorem dL_acts_83 : decode cL_acts 83 = .ok (.if_icmp .ne 79, 3) := by decide +kernel
theorem dL_acts_86 : decode cL_acts 86 = .ok (.aload_n 0, 1) := by decide +kernel
theorem dL_acts_87 : decode cL_acts 87 = .ok (.bipush 10, 2) := by decide +kernel
theorem dL_acts_89 : decode cL_acts 89 = .ok (.iconst 4, 1) := by decide +kernel
theorem dL_acts_90 : decode cL_acts 90 = .ok (.invokestatic 337, 3) := by decide +kernel
theorem dL_acts_93 : decode cL_acts 93 = .ok (.ldc 18, 2) := by decide +kernel
theorem dL_acts_95 : decode cL_acts 95 = .ok (.if_icmp .ne 67, 3) := by decide +kernel
theorem dL_acts_98 : decode cL_acts 98 = .ok (.aload_n 0, 1) := by decide +kernel
theorem dL_acts_99 : decode cL_acts 99 = .ok (.iconst 1, 1) := by decide +kernel
theorem dL_acts_100 : decode cL_acts 100 = .ok (.iconst 1, 1) := by decide +kernel
theorem dL_acts_101 : decode cL_acts 101 = .ok (.invokestatic 337, 3) := by decide +kernel
theorem dL_acts_104 : decode cL_acts 104 = .ok (.ldc 18, 2) := by decide +kernel
theorem dL_acts_106 : decode cL_acts 106 = .ok (.if_icmp .ne 56, 3) := by decide +kernel
theorem dL_acts_109 : decode cL_acts 109 = .ok (.iload 7, 2) := by decide +kernel
theorem dL_acts_111 : decode cL_acts 111 = .ok (.ifCond .lt 47, 3) := by decide +kernel
theorem dL_acts_114 : decode cL_acts 114 = .ok (.aload_n 0, 1) := by decide +kernel
theorem dL_acts_115 : decode cL_acts 115 = .ok (.iload 7, 2) := by decide +kernel
theorem dL_acts_117 : decode cL_acts 117 = .ok (.invokestatic 193, 3) := by decide +kernel
theorem dL_acts_120 : decode cL_acts 120 = .ok (.bipush 96, 2) := by decide +kernel
theorem dL_acts_122 : decode cL_acts 122 = .ok (.iload 5, 2) := by decide +kernel
theorem dL_acts_124 : decode cL_acts 124 = .ok (.imul, 1) := by decide +kernel
theorem dL_acts_125 : decode cL_acts 125 = .ok (.iload 6, 2) := by decide +kernel
theorem dL_acts_127 : decode cL_acts 127 = .ok (.idiv, 1) := by decide +kernel
theorem dL_acts_128 : decode cL_acts 128 = .ok (.if_icmp .ne 34, 3) := by decide +kernel
theorem dL_acts_131 : decode cL_acts 131 = .ok (.aload_n 0, 1) := by decide +kernel
theorem dL_acts_132 : decode cL_acts 132 = .ok (.iconst 3, 1) := by decide +kernel
theorem dL_acts_133 : decode cL_acts 133 = .ok (.iload 7, 2) := by decide +kernel
theorem dL_acts_135 : decode cL_acts 135 = .ok (.invokestatic 289, 3) := by decide +kernel
theorem dL_acts_138 : decode cL_acts 138 = .ok (.aload_n 0, 1) := by decide +kernel
theorem dL_acts_139 : decode cL_acts 139 = .ok (.iload 7, 2) := by decide +kernel
theorem dL_acts_141 : decode cL_acts 141 = .ok (.invokestatic 193, 3) := by decide +kernel
theorem dL_acts_144 : decode cL_acts 144 = .ok (.if_icmp .ne 18, 3) := by decide +kernel
theorem dL_acts_147 : decode cL_acts 147 = .ok (.aload_n 0, 1) := by decide +kernel
theorem dL_acts_148 : decode cL_acts 148 = .ok (.iconst 0, 1) := by decide +kernel
theorem dL_acts_149 : decode cL_acts 149 = .ok (.iload 7, 2) := by decide +kernel
theorem dL_acts_151 : decode cL_acts 151 = .ok (.invokestatic 203, 3) := by decide +kernel
theorem dL_acts_154 : decode cL_acts 154 = .ok (.iconst 1, 1) := by decide +kernel
theorem dL_acts_155 : decode cL_acts 155 = .ok (.if_icmp .ne 7, 3) := by decide +kernel
theorem dL_acts_158 : decode cL_acts 158 = .ok (.iconst 1, 1) := by decide +kernel
theorem dL_acts_159 : decode cL_acts 159 = .ok (.goto 4, 3) := by decide +kernel
theorem dL_acts_162 : decode cL_acts 162 = .ok (.iconst 0, 1) := by decide +kernel
theorem dL_acts_163 : decode cL_acts 163 = .ok (.ireturn, 1) := by decide +kernel
theorem dL_acts_164 : decode cL_acts 164 = .ok (.iload_n 3, 1) := by decide +kernel
theorem dL_acts_165 : decode cL_acts 165 = .ok (.iconst 4, 1) := by decide +kernel
theorem dL_acts_166 : decode cL_acts 166 = .ok (.ishr, 1) := by decide +kernel
theorem dL_acts_167 : decode cL_acts 167 = .ok (.iconst 3, 1) := by decide +kernel
theorem dL_acts_168 : decode cL_acts 168 = .ok (.invokestatic 213, 3) := by decide +kernel
theorem dL_acts_171 : decode cL_acts 171 = .ok (.ifCond .ne 18, 3) := by decide +kernel
theorem dL_acts_174 : decode cL_acts 174 = .ok (.aload_n 0, 1) := by decide +kernel
theorem dL_acts_175 : decode cL_acts 175 = .ok (.aload_n 1, 1) := by decide +kernel
theorem dL_acts_176 : decode cL_acts 176 = .ok (.aload_n 2, 1) := by decide +kernel
theorem dL_acts_177 : decode cL_acts 177 = .ok (.iload_n 3, 1) := by decide +kernel
theorem dL_acts_178 : decode cL_acts 178 = .ok (.bipush 6, 2) := by decide +kernel
theorem dL_acts_180 : decode cL_acts 180 = .ok (.ishr, 1) := by decide +kernel
theorem dL_acts_181 : decode cL_acts 181 = .ok (.iload 4, 2) := by decide +kernel
theorem dL_acts_183 : decode cL_acts 183 = .ok (.invokestatic 339, 3) := by decide +kernel
theorem dL_acts_186 : decode cL_acts 186 = .ok (.goto 15, 3) := by decide +kernel
theorem dL_acts_189 : decode cL_acts 189 = .ok (.aload_n 0, 1) := by decide +kernel
theorem dL_acts_190 : decode cL_acts 190 = .ok (.aload_n 1, 1) := by decide +kernel
theorem dL_acts_191 : decode cL_acts 191 = .ok (.aload_n 2, 1) := by decide +kernel
theorem dL_acts_192 : decode cL_acts 192 = .ok (.iload_n 3, 1) := by decide +kernel
theorem dL_acts_193 : decode cL_acts 193 = .ok (.bipush 6, 2) := by decide +kernel
theorem dL_acts_195 : decode cL_acts 195 = .ok (.ishr, 1) := by decide +kernel
theorem dL_acts_196 : decode cL_acts 196 = .ok (.iload 4, 2) := by decide +kernel
theorem dL_acts_198 : decode cL_acts 198 = .ok (.invokestatic 343, 3) := by decide +kernel
theorem dL_acts_201 : decode cL_acts 201 = .ok (.ireturn, 1) := by decide +kernel
theorem dL_law_0 : decode cL_law 0 = .ok (.new 11, 3) := by decide +kernel
theorem dL_law_3 : decode cL_law 3 = .ok (.dup, 1) := by decide +kernel
theorem dL_law_4 : decode cL_law 4 = .ok (.invokespecial 346, 3) := by decide +kernel
theorem dL_law_7 : decode cL_law 7 = .ok (.astore_n 1, 1) := by decide +kernel
theorem dL_law_8 : decode cL_law 8 = .ok (.iconst 4, 1) := by decide +kernel
theorem dL_law_9 : decode cL_law 9 = .ok (.newarray .int, 2) := by decide +kernel
theorem dL_law_11 : decode cL_law 11 = .ok (.astore_n 2, 1) := by decide +kernel
theorem dL_law_12 : decode cL_law 12 = .ok (.iconst 4, 1) := by decide +kernel
theorem dL_law_13 : decode cL_law 13 = .ok (.newarray .int, 2) := by decide +kernel
theorem dL_law_15 : decode cL_law 15 = .ok (.astore_n 3, 1) := by decide +kernel
theorem dL_law_16 : decode cL_law 16 = .ok (.aload_n 2, 1) := by decide +kernel
theorem dL_law_17 : decode cL_law 17 = .ok (.iconst 1, 1) := by decide +kernel
theorem dL_law_18 : decode cL_law 18 = .ok (.bipush 120, 2) := by decide +kernel
theorem dL_law_20 : decode cL_law 20 = .ok (.iastore, 1) := by decide +kernel
theorem dL_law_21 : decode cL_law 21 = .ok (.aload_n 2, 1) := by decide +kernel
theorem dL_law_22 : decode cL_law 22 = .ok (.iconst 2, 1) := by decide +kernel
theorem dL_law_23 : decode cL_law 23 = .ok (.iconst 4, 1) := by decide +kernel
theorem dL_law_24 : decode cL_law 24 = .ok (.iastore, 1) := by decide +kernel
theorem dL_law_25 : decode cL_law 25 = .ok (.aload_n 2, 1) := by decide +kernel
theorem dL_law_26 : decode cL_law 26 = .ok (.iconst 3, 1) := by decide +kernel
theorem dL_law_27 : decode cL_law 27 = .ok (.sipush 1500, 3) := by decide +kernel
theorem dL_law_30 : decode cL_law 30 = .ok (.iastore, 1) := by decide +kernel
theorem dL_law_31 : decode cL_law 31 = .ok (.aload_n 1, 1) := by decide +kernel
theorem dL_law_32 : decode cL_law 32 = .ok (.invokevirtual 200, 3) := by decide +kernel
theorem dL_law_35 : decode cL_law 35 = .ok (.ifCond .ne 37, 3) := by decide +kernel
theorem dL_law_38 : decode cL_law 38 = .ok (.aload_n 1, 1) := by decide +kernel
theorem dL_law_39 : decode cL_law 39 = .ok (.invokevirtual 180, 3) := by decide +kernel
theorem dL_law_42 : decode cL_law 42 = .ok (.ifCond .ne 30, 3) := by decide +kernel
theorem dL_law_45 : decode cL_law 45 = .ok (.aload_n 1, 1) := by decide +kernel
theorem dL_law_46 : decode cL_law 46 = .ok (.invokevirtual 210, 3) := by decide +kernel
theorem dL_law_49 : decode cL_law 49 = .ok (.ifCond .ne 23, 3) := by decide +kernel
theorem dL_law_52 : decode cL_law 52 = .ok (.aload_n 1, 1) := by decide +kernel
theorem dL_law_53 : decode cL_law 53 = .ok (.invokevirtual 329, 3) := by decide +kernel
theorem dL_law_56 : decode cL_law 56 = .ok (.ifCond .ne 16, 3) := by decide +kernel
theorem dL_law_59 : decode cL_law 59 = .ok (.aload_n 1, 1) := by decide +kernel
theorem dL_law_60 : decode cL_law 60 = .ok (.aload_n 2, 1) := by decide +kernel
theorem dL_law_61 : decode cL_law 61 = .ok (.iconst 0, 1) := by decide +kernel
theorem dL_law_62 : decode cL_law 62 = .ok (.invokestatic 347, 3) := by decide +kernel
theorem dL_law_65 : decode cL_law 65 = .ok (.ifCond .eq 7, 3) := by decide +kernel
theorem dL_law_68 : decode cL_law 68 = .ok (.iconst 1, 1) := by decide +kernel
theorem dL_law_69 : decode cL_law 69 = .ok (.goto 4, 3) := by decide +kernel
theorem dL_law_72 : decode cL_law 72 = .ok (.iconst 0, 1) := by decide +kernel
theorem dL_law_73 : decode cL_law 73 = .ok (.istore 4, 2) := by decide +kernel
theorem dL_law_75 : decode cL_law 75 = .ok (.iconst 0, 1) := by decide +kernel
theorem dL_law_76 : decode cL_law 76 = .ok (.istore 5, 2) := by decide +kernel
theorem dL_law_78 : decode cL_law 78 = .ok (.iload 5, 2) := by decide +kernel
theorem dL_law_80 : decode cL_law 80 = .ok (.sipush 150, 3) := by decide +kernel
theorem dL_law_83 : decode cL_law 83 = .ok (.if_icmp .ge 68, 3) := by decide +kernel
theorem dL_law_86 : decode cL_law 86 = .ok (.iload 4, 2) := by decide +kernel
theorem dL_law_88 : decode cL_law 88 = .ok (.ifCond .eq 63, 3) := by decide +kernel
theorem dL_law_91 : decode cL_law 91 = .ok (.aload_n 0, 1) := by decide +kernel
theorem dL_law_92 : decode cL_law 92 = .ok (.iconst 2, 1) := by decide +kernel
theorem dL_law_93 : decode cL_law 93 = .ok (.iload 5, 2) := by decide +kernel
theorem dL_law_95 : decode cL_law 95 = .ok (.imul, 1) := by decide +kernel
theorem dL_law_96 : decode cL_law 96 = .ok (.invokestatic 350, 3) := by decide +kernel
theorem dL_law_99 : decode cL_law 99 = .ok (.istore 6, 2) := by decide +kernel
theorem dL_law_101 : decode cL_law 101 = .ok (.aload_n 1, 1) := by decide +kernel
theorem dL_law_102 : decode cL_law 102 = .ok (.aload_n 2, 1) := by decide +kernel
theorem dL_law_103 : decode cL_law 103 = .ok (.aload_n 3, 1) := by decide +kernel
theorem dL_law_104 : decode cL_law 104 = .ok (.iload 6, 2) := by decide +kernel
theorem dL_law_106 : decode cL_law 106 = .ok (.aload_n 0, 1) := by decide +kernel
theorem dL_law_107 : decode cL_law 107 = .ok (.iconst 2, 1) := by decide +kernel
theorem dL_law_108 : decode cL_law 108 = .ok (.iload 5, 2) := by decide +kernel
theorem dL_law_110 : decode cL_law 110 = .ok (.imul, 1) := by decide +kernel
theorem dL_law_111 : decode cL_law 111 = .ok (.iconst 1, 1) := by decide +kernel
theorem dL_law_112 : decode cL_law 112 = .ok (.iadd, 1) := by decide +kernel
theorem dL_law_113 : decode cL_law 113 = .ok (.invokestatic 350, 3) := by decide +kernel
theorem dL_law_116 : decode cL_law 116 = .ok (.invokestatic 354, 3) := by decide +kernel
theorem dL_law_119 : decode cL_law 119 = .ok (.istore 4, 2) := by decide +kernel
theorem dL_law_121 : decode cL_law 121 = .ok (.iload 4, 2) := by decide +kernel
theorem dL_law_123 : decode cL_law 123 = .ok (.ifCond .eq 22, 3) := by decide +kernel
theorem dL_law_126 : decode cL_law 126 = .ok (.iload 5, 2) := by decide +kernel
theorem dL_law_128 : decode cL_law 128 = .ok (.bipush 25, 2) := by decide +kernel
theorem dL_law_130 : decode cL_law 130 = .ok (.irem, 1) := by decide +kernel
theorem dL_law_131 : decode cL_law 131 = .ok (.bipush 24, 2) := by decide +kernel
theorem dL_law_133 : decode cL_law 133 = .ok (.if_icmp .ne 12, 3) := by decide +kernel
theorem dL_law_136 : decode cL_law 136 = .ok (.aload_n 1, 1) := by decide +kernel
theorem dL_law_137 : decode cL_law 137 = .ok (.aload_n 2, 1) := by decide +kernel
theorem dL_law_138 : decode cL_law 138 = .ok (.iload 6, 2) := by decide +kernel
theorem dL_law_140 : decode cL_law 140 = .ok (.invokestatic 347, 3) := by decide +kernel
theorem dL_law_143 : decode cL_law 143 = .ok (.istore 4, 2) := by decide +kernel
theorem dL_law_145 : decode cL_law 145 = .ok (.iinc 5 1, 3) := by decide +kernel
theorem dL_law_148 : decode cL_law 148 = .ok (.goto (-70), 3) := by decide +kernel
theorem dL_law_151 : decode cL_law 151 = .ok (.iload 4, 2) := by decide +kernel
theorem dL_law_153 : decode cL_law 153 = .ok (.ireturn, 1) := by decide +kernel
