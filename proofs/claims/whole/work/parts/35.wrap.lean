/-! THE LAW'S OWN METHODS, EACH -/
theorem v_i510 : Cond.methodLink RL 7 yX11_addBar ∈ wU := w_at 510 (by decide +kernel) (by decide +kernel)
theorem v_i511 : Cond.instanceMethod yX11_addBar ∈ wU := w_at 511 (by decide +kernel) (by decide +kernel)
theorem v_i512 : Cond.selects RX11 yX11_addBar yX11_addBar ∈ wU := w_at 512 (by decide +kernel) (by decide +kernel)
theorem vl_L_7 : ∀ w ∈ ([.methodLink RL 7 yX11_addBar, .instanceMethod yX11_addBar, .selects RX11 yX11_addBar yX11_addBar, .initialized RX11] : List Cond), w ∈ wU := w_4 v_i510 v_i511 v_i512 v_i84
theorem v_i508 : Cond.classLink RL 13 "java/lang/IllegalArgumentException" ∈ wU := w_at 508 (by decide +kernel) (by decide +kernel)
theorem n_i522 : Cond.castable "java/lang/IllegalArgumentException" "java/lang/IllegalArgumentException" ∈ nwL := n_at 522 (by decide +kernel) rfl
theorem v_i509 : Cond.classLink RL 15 "java/lang/IllegalStateException" ∈ wU := w_at 509 (by decide +kernel) (by decide +kernel)
theorem n_i591 : Cond.castable "java/lang/IllegalStateException" "java/lang/IllegalStateException" ∈ nwL := n_at 591 (by decide +kernel) rfl
theorem v_i658 : Cond.methodLink RL 17 yX11_setMetre ∈ wU := w_at 658 (by decide +kernel) (by decide +kernel)
theorem v_i659 : Cond.instanceMethod yX11_setMetre ∈ wU := w_at 659 (by decide +kernel) (by decide +kernel)
theorem v_i660 : Cond.selects RX11 yX11_setMetre yX11_setMetre ∈ wU := w_at 660 (by decide +kernel) (by decide +kernel)
theorem vl_L_17 : ∀ w ∈ ([.methodLink RL 17 yX11_setMetre, .instanceMethod yX11_setMetre, .selects RX11 yX11_setMetre yX11_setMetre, .initialized RX11] : List Cond), w ∈ wU := w_4 v_i658 v_i659 v_i660 v_i84
theorem v_i657 : Cond.classLink RL 21 "java/lang/IndexOutOfBoundsException" ∈ wU := w_at 657 (by decide +kernel) (by decide +kernel)
theorem n_i671 : Cond.castable "java/lang/IndexOutOfBoundsException" "java/lang/IndexOutOfBoundsException" ∈ nwL := n_at 671 (by decide +kernel) rfl
theorem v_i697 : Cond.methodLink RL 23 yX11_setTempo ∈ wU := w_at 697 (by decide +kernel) (by decide +kernel)
theorem v_i698 : Cond.instanceMethod yX11_setTempo ∈ wU := w_at 698 (by decide +kernel) (by decide +kernel)
theorem v_i699 : Cond.selects RX11 yX11_setTempo yX11_setTempo ∈ wU := w_at 699 (by decide +kernel) (by decide +kernel)
theorem vl_L_23 : ∀ w ∈ ([.methodLink RL 23 yX11_setTempo, .instanceMethod yX11_setTempo, .selects RX11 yX11_setTempo yX11_setTempo, .initialized RX11] : List Cond), w ∈ wU := w_4 v_i697 v_i698 v_i699 v_i84
theorem v_i704 : Cond.methodLink RL 26 yX11_length ∈ wU := w_at 704 (by decide +kernel) (by decide +kernel)
theorem v_i705 : Cond.instanceMethod yX11_length ∈ wU := w_at 705 (by decide +kernel) (by decide +kernel)
theorem v_i706 : Cond.selects RX11 yX11_length yX11_length ∈ wU := w_at 706 (by decide +kernel) (by decide +kernel)
theorem vl_L_26 : ∀ w ∈ ([.methodLink RL 26 yX11_length, .instanceMethod yX11_length, .selects RX11 yX11_length yX11_length, .initialized RX11] : List Cond), w ∈ wU := w_4 v_i704 v_i705 v_i706 v_i84
theorem v_i711 : Cond.methodLink RL 30 yX11_tempo ∈ wU := w_at 711 (by decide +kernel) (by decide +kernel)
theorem v_i712 : Cond.instanceMethod yX11_tempo ∈ wU := w_at 712 (by decide +kernel) (by decide +kernel)
theorem v_i713 : Cond.selects RX11 yX11_tempo yX11_tempo ∈ wU := w_at 713 (by decide +kernel) (by decide +kernel)
theorem vl_L_30 : ∀ w ∈ ([.methodLink RL 30 yX11_tempo, .instanceMethod yX11_tempo, .selects RX11 yX11_tempo yX11_tempo, .initialized RX11] : List Cond), w ∈ wU := w_4 v_i711 v_i712 v_i713 v_i84
theorem v_i719 : Cond.methodLink RL 33 yX11_time ∈ wU := w_at 719 (by decide +kernel) (by decide +kernel)
theorem v_i720 : Cond.instanceMethod yX11_time ∈ wU := w_at 720 (by decide +kernel) (by decide +kernel)
theorem v_i721 : Cond.selects RX11 yX11_time yX11_time ∈ wU := w_at 721 (by decide +kernel) (by decide +kernel)
theorem vl_L_33 : ∀ w ∈ ([.methodLink RL 33 yX11_time, .instanceMethod yX11_time, .selects RX11 yX11_time yX11_time, .initialized RX11] : List Cond), w ∈ wU := w_4 v_i719 v_i720 v_i721 v_i84
theorem v_i727 : Cond.methodLink RL 36 yX11_insert ∈ wU := w_at 727 (by decide +kernel) (by decide +kernel)
theorem v_i728 : Cond.instanceMethod yX11_insert ∈ wU := w_at 728 (by decide +kernel) (by decide +kernel)
theorem v_i729 : Cond.selects RX11 yX11_insert yX11_insert ∈ wU := w_at 729 (by decide +kernel) (by decide +kernel)
theorem vl_L_36 : ∀ w ∈ ([.methodLink RL 36 yX11_insert, .instanceMethod yX11_insert, .selects RX11 yX11_insert yX11_insert, .initialized RX11] : List Cond), w ∈ wU := w_4 v_i727 v_i728 v_i729 v_i84
theorem v_i1045 : Cond.methodLink RL 40 yX11_remove ∈ wU := w_at 1045 (by decide +kernel) (by decide +kernel)
theorem v_i1046 : Cond.instanceMethod yX11_remove ∈ wU := w_at 1046 (by decide +kernel) (by decide +kernel)
theorem v_i1047 : Cond.selects RX11 yX11_remove yX11_remove ∈ wU := w_at 1047 (by decide +kernel) (by decide +kernel)
theorem vl_L_40 : ∀ w ∈ ([.methodLink RL 40 yX11_remove, .instanceMethod yX11_remove, .selects RX11 yX11_remove yX11_remove, .initialized RX11] : List Cond), w ∈ wU := w_4 v_i1045 v_i1046 v_i1047 v_i84
theorem v_i1077 : Cond.methodLink RL 43 yX11_setPitch ∈ wU := w_at 1077 (by decide +kernel) (by decide +kernel)
theorem v_i1078 : Cond.instanceMethod yX11_setPitch ∈ wU := w_at 1078 (by decide +kernel) (by decide +kernel)
theorem v_i1079 : Cond.selects RX11 yX11_setPitch yX11_setPitch ∈ wU := w_at 1079 (by decide +kernel) (by decide +kernel)
theorem vl_L_43 : ∀ w ∈ ([.methodLink RL 43 yX11_setPitch, .instanceMethod yX11_setPitch, .selects RX11 yX11_setPitch yX11_setPitch, .initialized RX11] : List Cond), w ∈ wU := w_4 v_i1077 v_i1078 v_i1079 v_i84
theorem v_i1086 : Cond.methodLink RL 47 yX11_setTie ∈ wU := w_at 1086 (by decide +kernel) (by decide +kernel)
theorem v_i1087 : Cond.instanceMethod yX11_setTie ∈ wU := w_at 1087 (by decide +kernel) (by decide +kernel)
theorem v_i1088 : Cond.selects RX11 yX11_setTie yX11_setTie ∈ wU := w_at 1088 (by decide +kernel) (by decide +kernel)
theorem vl_L_47 : ∀ w ∈ ([.methodLink RL 47 yX11_setTie, .instanceMethod yX11_setTie, .selects RX11 yX11_setTie yX11_setTie, .initialized RX11] : List Cond), w ∈ wU := w_4 v_i1086 v_i1087 v_i1088 v_i84
theorem v_i1094 : Cond.methodLink RL 51 yX11_setMark ∈ wU := w_at 1094 (by decide +kernel) (by decide +kernel)
theorem v_i1095 : Cond.instanceMethod yX11_setMark ∈ wU := w_at 1095 (by decide +kernel) (by decide +kernel)
theorem v_i1096 : Cond.selects RX11 yX11_setMark yX11_setMark ∈ wU := w_at 1096 (by decide +kernel) (by decide +kernel)
theorem vl_L_51 : ∀ w ∈ ([.methodLink RL 51 yX11_setMark, .instanceMethod yX11_setMark, .selects RX11 yX11_setMark yX11_setMark, .initialized RX11] : List Cond), w ∈ wU := w_4 v_i1094 v_i1095 v_i1096 v_i84
theorem v_i1101 : Cond.methodLink RL 54 yX11_transpose ∈ wU := w_at 1101 (by decide +kernel) (by decide +kernel)
theorem v_i1102 : Cond.instanceMethod yX11_transpose ∈ wU := w_at 1102 (by decide +kernel) (by decide +kernel)
theorem v_i1103 : Cond.selects RX11 yX11_transpose yX11_transpose ∈ wU := w_at 1103 (by decide +kernel) (by decide +kernel)
theorem vl_L_54 : ∀ w ∈ ([.methodLink RL 54 yX11_transpose, .instanceMethod yX11_transpose, .selects RX11 yX11_transpose yX11_transpose, .initialized RX11] : List Cond), w ∈ wU := w_4 v_i1101 v_i1102 v_i1103 v_i84
theorem v_i1113 : Cond.methodLink RL 57 yX11_events ∈ wU := w_at 1113 (by decide +kernel) (by decide +kernel)
theorem v_i1114 : Cond.instanceMethod yX11_events ∈ wU := w_at 1114 (by decide +kernel) (by decide +kernel)
theorem v_i1115 : Cond.selects RX11 yX11_events yX11_events ∈ wU := w_at 1115 (by decide +kernel) (by decide +kernel)
theorem vl_L_57 : ∀ w ∈ ([.methodLink RL 57 yX11_events, .instanceMethod yX11_events, .selects RX11 yX11_events yX11_events, .initialized RX11] : List Cond), w ∈ wU := w_4 v_i1113 v_i1114 v_i1115 v_i84
theorem v_i1120 : Cond.methodLink RL 60 yX11_left ∈ wU := w_at 1120 (by decide +kernel) (by decide +kernel)
theorem v_i1121 : Cond.instanceMethod yX11_left ∈ wU := w_at 1121 (by decide +kernel) (by decide +kernel)
theorem v_i1122 : Cond.selects RX11 yX11_left yX11_left ∈ wU := w_at 1122 (by decide +kernel) (by decide +kernel)
theorem vl_L_60 : ∀ w ∈ ([.methodLink RL 60 yX11_left, .instanceMethod yX11_left, .selects RX11 yX11_left yX11_left, .initialized RX11] : List Cond), w ∈ wU := w_4 v_i1120 v_i1121 v_i1122 v_i84
theorem v_i1127 : Cond.methodLink RL 63 yX11_isRight ∈ wU := w_at 1127 (by decide +kernel) (by decide +kernel)
theorem v_i1128 : Cond.instanceMethod yX11_isRight ∈ wU := w_at 1128 (by decide +kernel) (by decide +kernel)
theorem v_i1129 : Cond.selects RX11 yX11_isRight yX11_isRight ∈ wU := w_at 1129 (by decide +kernel) (by decide +kernel)
theorem vl_L_63 : ∀ w ∈ ([.methodLink RL 63 yX11_isRight, .instanceMethod yX11_isRight, .selects RX11 yX11_isRight yX11_isRight, .initialized RX11] : List Cond), w ∈ wU := w_4 v_i1127 v_i1128 v_i1129 v_i84
theorem v_i1144 : Cond.methodLink RL 67 yX11_written ∈ wU := w_at 1144 (by decide +kernel) (by decide +kernel)
theorem v_i1145 : Cond.instanceMethod yX11_written ∈ wU := w_at 1145 (by decide +kernel) (by decide +kernel)
theorem v_i1146 : Cond.selects RX11 yX11_written yX11_written ∈ wU := w_at 1146 (by decide +kernel) (by decide +kernel)
theorem vl_L_67 : ∀ w ∈ ([.methodLink RL 67 yX11_written, .instanceMethod yX11_written, .selects RX11 yX11_written yX11_written, .initialized RX11] : List Cond), w ∈ wU := w_4 v_i1144 v_i1145 v_i1146 v_i84
theorem v_i1151 : Cond.methodLink RL 70 yX11_addPhrase ∈ wU := w_at 1151 (by decide +kernel) (by decide +kernel)
theorem v_i1152 : Cond.instanceMethod yX11_addPhrase ∈ wU := w_at 1152 (by decide +kernel) (by decide +kernel)
theorem v_i1153 : Cond.selects RX11 yX11_addPhrase yX11_addPhrase ∈ wU := w_at 1153 (by decide +kernel) (by decide +kernel)
theorem vl_L_70 : ∀ w ∈ ([.methodLink RL 70 yX11_addPhrase, .instanceMethod yX11_addPhrase, .selects RX11 yX11_addPhrase yX11_addPhrase, .initialized RX11] : List Cond), w ∈ wU := w_4 v_i1151 v_i1152 v_i1153 v_i84
theorem v_i1187 : Cond.methodLink RL 74 yX11_dropPhrase ∈ wU := w_at 1187 (by decide +kernel) (by decide +kernel)
theorem v_i1188 : Cond.instanceMethod yX11_dropPhrase ∈ wU := w_at 1188 (by decide +kernel) (by decide +kernel)
theorem v_i1189 : Cond.selects RX11 yX11_dropPhrase yX11_dropPhrase ∈ wU := w_at 1189 (by decide +kernel) (by decide +kernel)
theorem vl_L_74 : ∀ w ∈ ([.methodLink RL 74 yX11_dropPhrase, .instanceMethod yX11_dropPhrase, .selects RX11 yX11_dropPhrase yX11_dropPhrase, .initialized RX11] : List Cond), w ∈ wU := w_4 v_i1187 v_i1188 v_i1189 v_i84
theorem v_i1195 : Cond.methodLink RL 78 yX11_allowTurn ∈ wU := w_at 1195 (by decide +kernel) (by decide +kernel)
theorem v_i1196 : Cond.instanceMethod yX11_allowTurn ∈ wU := w_at 1196 (by decide +kernel) (by decide +kernel)
theorem v_i1197 : Cond.selects RX11 yX11_allowTurn yX11_allowTurn ∈ wU := w_at 1197 (by decide +kernel) (by decide +kernel)
theorem vl_L_78 : ∀ w ∈ ([.methodLink RL 78 yX11_allowTurn, .instanceMethod yX11_allowTurn, .selects RX11 yX11_allowTurn yX11_allowTurn, .initialized RX11] : List Cond), w ∈ wU := w_4 v_i1195 v_i1196 v_i1197 v_i84
theorem v_i1202 : Cond.methodLink RL 82 yX11_addRepeat ∈ wU := w_at 1202 (by decide +kernel) (by decide +kernel)
theorem v_i1203 : Cond.instanceMethod yX11_addRepeat ∈ wU := w_at 1203 (by decide +kernel) (by decide +kernel)
theorem v_i1204 : Cond.selects RX11 yX11_addRepeat yX11_addRepeat ∈ wU := w_at 1204 (by decide +kernel) (by decide +kernel)
theorem vl_L_82 : ∀ w ∈ ([.methodLink RL 82 yX11_addRepeat, .instanceMethod yX11_addRepeat, .selects RX11 yX11_addRepeat yX11_addRepeat, .initialized RX11] : List Cond), w ∈ wU := w_4 v_i1202 v_i1203 v_i1204 v_i84
theorem v_i1236 : Cond.methodLink RL 85 yX11_dropRepeat ∈ wU := w_at 1236 (by decide +kernel) (by decide +kernel)
theorem v_i1237 : Cond.instanceMethod yX11_dropRepeat ∈ wU := w_at 1237 (by decide +kernel) (by decide +kernel)
theorem v_i1238 : Cond.selects RX11 yX11_dropRepeat yX11_dropRepeat ∈ wU := w_at 1238 (by decide +kernel) (by decide +kernel)
theorem vl_L_85 : ∀ w ∈ ([.methodLink RL 85 yX11_dropRepeat, .instanceMethod yX11_dropRepeat, .selects RX11 yX11_dropRepeat yX11_dropRepeat, .initialized RX11] : List Cond), w ∈ wU := w_4 v_i1236 v_i1237 v_i1238 v_i84
theorem v_i1249 : Cond.methodLink RL 88 yX11_barAt ∈ wU := w_at 1249 (by decide +kernel) (by decide +kernel)
theorem v_i1250 : Cond.instanceMethod yX11_barAt ∈ wU := w_at 1250 (by decide +kernel) (by decide +kernel)
theorem v_i1251 : Cond.selects RX11 yX11_barAt yX11_barAt ∈ wU := w_at 1251 (by decide +kernel) (by decide +kernel)
theorem vl_L_88 : ∀ w ∈ ([.methodLink RL 88 yX11_barAt, .instanceMethod yX11_barAt, .selects RX11 yX11_barAt yX11_barAt, .initialized RX11] : List Cond), w ∈ wU := w_4 v_i1249 v_i1250 v_i1251 v_i84
theorem v_i1256 : Cond.methodLink RL 91 yX11_startOf ∈ wU := w_at 1256 (by decide +kernel) (by decide +kernel)
theorem v_i1257 : Cond.instanceMethod yX11_startOf ∈ wU := w_at 1257 (by decide +kernel) (by decide +kernel)
theorem v_i1258 : Cond.selects RX11 yX11_startOf yX11_startOf ∈ wU := w_at 1258 (by decide +kernel) (by decide +kernel)
theorem vl_L_91 : ∀ w ∈ ([.methodLink RL 91 yX11_startOf, .instanceMethod yX11_startOf, .selects RX11 yX11_startOf yX11_startOf, .initialized RX11] : List Cond), w ∈ wU := w_4 v_i1256 v_i1257 v_i1258 v_i84
theorem v_i1263 : Cond.methodLink RL 94 yX11_timeByEvents ∈ wU := w_at 1263 (by decide +kernel) (by decide +kernel)
theorem v_i1264 : Cond.instanceMethod yX11_timeByEvents ∈ wU := w_at 1264 (by decide +kernel) (by decide +kernel)
theorem v_i1265 : Cond.selects RX11 yX11_timeByEvents yX11_timeByEvents ∈ wU := w_at 1265 (by decide +kernel) (by decide +kernel)
theorem vl_L_94 : ∀ w ∈ ([.methodLink RL 94 yX11_timeByEvents, .instanceMethod yX11_timeByEvents, .selects RX11 yX11_timeByEvents yX11_timeByEvents, .initialized RX11] : List Cond), w ∈ wU := w_4 v_i1263 v_i1264 v_i1265 v_i84
theorem v_i1274 : Cond.methodLink RL 97 yX11_soundVoice ∈ wU := w_at 1274 (by decide +kernel) (by decide +kernel)
theorem v_i1275 : Cond.instanceMethod yX11_soundVoice ∈ wU := w_at 1275 (by decide +kernel) (by decide +kernel)
theorem v_i1276 : Cond.selects RX11 yX11_soundVoice yX11_soundVoice ∈ wU := w_at 1276 (by decide +kernel) (by decide +kernel)
theorem vl_L_97 : ∀ w ∈ ([.methodLink RL 97 yX11_soundVoice, .instanceMethod yX11_soundVoice, .selects RX11 yX11_soundVoice yX11_soundVoice, .initialized RX11] : List Cond), w ∈ wU := w_4 v_i1274 v_i1275 v_i1276 v_i84
theorem v_i1286 : Cond.methodLink RL 100 yX11_soundStart ∈ wU := w_at 1286 (by decide +kernel) (by decide +kernel)
theorem v_i1287 : Cond.instanceMethod yX11_soundStart ∈ wU := w_at 1287 (by decide +kernel) (by decide +kernel)
theorem v_i1288 : Cond.selects RX11 yX11_soundStart yX11_soundStart ∈ wU := w_at 1288 (by decide +kernel) (by decide +kernel)
theorem vl_L_100 : ∀ w ∈ ([.methodLink RL 100 yX11_soundStart, .instanceMethod yX11_soundStart, .selects RX11 yX11_soundStart yX11_soundStart, .initialized RX11] : List Cond), w ∈ wU := w_4 v_i1286 v_i1287 v_i1288 v_i84
theorem v_i1293 : Cond.methodLink RL 103 yX11_soundTime ∈ wU := w_at 1293 (by decide +kernel) (by decide +kernel)
theorem v_i1294 : Cond.instanceMethod yX11_soundTime ∈ wU := w_at 1294 (by decide +kernel) (by decide +kernel)
theorem v_i1295 : Cond.selects RX11 yX11_soundTime yX11_soundTime ∈ wU := w_at 1295 (by decide +kernel) (by decide +kernel)
theorem vl_L_103 : ∀ w ∈ ([.methodLink RL 103 yX11_soundTime, .instanceMethod yX11_soundTime, .selects RX11 yX11_soundTime yX11_soundTime, .initialized RX11] : List Cond), w ∈ wU := w_4 v_i1293 v_i1294 v_i1295 v_i84
theorem v_i1300 : Cond.methodLink RL 106 yX11_soundPitch ∈ wU := w_at 1300 (by decide +kernel) (by decide +kernel)
theorem v_i1301 : Cond.instanceMethod yX11_soundPitch ∈ wU := w_at 1301 (by decide +kernel) (by decide +kernel)
theorem v_i1302 : Cond.selects RX11 yX11_soundPitch yX11_soundPitch ∈ wU := w_at 1302 (by decide +kernel) (by decide +kernel)
theorem vl_L_106 : ∀ w ∈ ([.methodLink RL 106 yX11_soundPitch, .instanceMethod yX11_soundPitch, .selects RX11 yX11_soundPitch yX11_soundPitch, .initialized RX11] : List Cond), w ∈ wU := w_4 v_i1300 v_i1301 v_i1302 v_i84
theorem v_i1307 : Cond.methodLink RL 109 yX11_loudness ∈ wU := w_at 1307 (by decide +kernel) (by decide +kernel)
theorem v_i1308 : Cond.instanceMethod yX11_loudness ∈ wU := w_at 1308 (by decide +kernel) (by decide +kernel)
theorem v_i1309 : Cond.selects RX11 yX11_loudness yX11_loudness ∈ wU := w_at 1309 (by decide +kernel) (by decide +kernel)
theorem vl_L_109 : ∀ w ∈ ([.methodLink RL 109 yX11_loudness, .instanceMethod yX11_loudness, .selects RX11 yX11_loudness yX11_loudness, .initialized RX11] : List Cond), w ∈ wU := w_4 v_i1307 v_i1308 v_i1309 v_i84
theorem v_i1314 : Cond.methodLink RL 112 yX11_setPaper ∈ wU := w_at 1314 (by decide +kernel) (by decide +kernel)
theorem v_i1315 : Cond.instanceMethod yX11_setPaper ∈ wU := w_at 1315 (by decide +kernel) (by decide +kernel)
theorem v_i1316 : Cond.selects RX11 yX11_setPaper yX11_setPaper ∈ wU := w_at 1316 (by decide +kernel) (by decide +kernel)
theorem vl_L_112 : ∀ w ∈ ([.methodLink RL 112 yX11_setPaper, .instanceMethod yX11_setPaper, .selects RX11 yX11_setPaper yX11_setPaper, .initialized RX11] : List Cond), w ∈ wU := w_4 v_i1314 v_i1315 v_i1316 v_i84
theorem v_i1321 : Cond.methodLink RL 116 yX11_items ∈ wU := w_at 1321 (by decide +kernel) (by decide +kernel)
theorem v_i1322 : Cond.instanceMethod yX11_items ∈ wU := w_at 1322 (by decide +kernel) (by decide +kernel)
theorem v_i1323 : Cond.selects RX11 yX11_items yX11_items ∈ wU := w_at 1323 (by decide +kernel) (by decide +kernel)
theorem vl_L_116 : ∀ w ∈ ([.methodLink RL 116 yX11_items, .instanceMethod yX11_items, .selects RX11 yX11_items yX11_items, .initialized RX11] : List Cond), w ∈ wU := w_4 v_i1321 v_i1322 v_i1323 v_i84
theorem v_i1581 : Cond.methodLink RL 119 yX11_itemKind ∈ wU := w_at 1581 (by decide +kernel) (by decide +kernel)
theorem v_i1582 : Cond.instanceMethod yX11_itemKind ∈ wU := w_at 1582 (by decide +kernel) (by decide +kernel)
theorem v_i1583 : Cond.selects RX11 yX11_itemKind yX11_itemKind ∈ wU := w_at 1583 (by decide +kernel) (by decide +kernel)
theorem vl_L_119 : ∀ w ∈ ([.methodLink RL 119 yX11_itemKind, .instanceMethod yX11_itemKind, .selects RX11 yX11_itemKind yX11_itemKind, .initialized RX11] : List Cond), w ∈ wU := w_4 v_i1581 v_i1582 v_i1583 v_i84
theorem v_i1588 : Cond.methodLink RL 122 yX11_itemBar ∈ wU := w_at 1588 (by decide +kernel) (by decide +kernel)
theorem v_i1589 : Cond.instanceMethod yX11_itemBar ∈ wU := w_at 1589 (by decide +kernel) (by decide +kernel)
theorem v_i1590 : Cond.selects RX11 yX11_itemBar yX11_itemBar ∈ wU := w_at 1590 (by decide +kernel) (by decide +kernel)
theorem vl_L_122 : ∀ w ∈ ([.methodLink RL 122 yX11_itemBar, .instanceMethod yX11_itemBar, .selects RX11 yX11_itemBar yX11_itemBar, .initialized RX11] : List Cond), w ∈ wU := w_4 v_i1588 v_i1589 v_i1590 v_i84
theorem v_i1595 : Cond.methodLink RL 125 yX11_itemBars ∈ wU := w_at 1595 (by decide +kernel) (by decide +kernel)
theorem v_i1596 : Cond.instanceMethod yX11_itemBars ∈ wU := w_at 1596 (by decide +kernel) (by decide +kernel)
theorem v_i1597 : Cond.selects RX11 yX11_itemBars yX11_itemBars ∈ wU := w_at 1597 (by decide +kernel) (by decide +kernel)
theorem vl_L_125 : ∀ w ∈ ([.methodLink RL 125 yX11_itemBars, .instanceMethod yX11_itemBars, .selects RX11 yX11_itemBars yX11_itemBars, .initialized RX11] : List Cond), w ∈ wU := w_4 v_i1595 v_i1596 v_i1597 v_i84
theorem v_i1602 : Cond.methodLink RL 128 yX11_cue ∈ wU := w_at 1602 (by decide +kernel) (by decide +kernel)
theorem v_i1603 : Cond.instanceMethod yX11_cue ∈ wU := w_at 1603 (by decide +kernel) (by decide +kernel)
theorem v_i1604 : Cond.selects RX11 yX11_cue yX11_cue ∈ wU := w_at 1604 (by decide +kernel) (by decide +kernel)
theorem vl_L_128 : ∀ w ∈ ([.methodLink RL 128 yX11_cue, .instanceMethod yX11_cue, .selects RX11 yX11_cue yX11_cue, .initialized RX11] : List Cond), w ∈ wU := w_4 v_i1602 v_i1603 v_i1604 v_i84
theorem v_i1609 : Cond.methodLink RL 131 yX11_itemWidth ∈ wU := w_at 1609 (by decide +kernel) (by decide +kernel)
theorem v_i1610 : Cond.instanceMethod yX11_itemWidth ∈ wU := w_at 1610 (by decide +kernel) (by decide +kernel)
theorem v_i1611 : Cond.selects RX11 yX11_itemWidth yX11_itemWidth ∈ wU := w_at 1611 (by decide +kernel) (by decide +kernel)
theorem vl_L_131 : ∀ w ∈ ([.methodLink RL 131 yX11_itemWidth, .instanceMethod yX11_itemWidth, .selects RX11 yX11_itemWidth yX11_itemWidth, .initialized RX11] : List Cond), w ∈ wU := w_4 v_i1609 v_i1610 v_i1611 v_i84
theorem v_i1616 : Cond.methodLink RL 134 yX11_lines ∈ wU := w_at 1616 (by decide +kernel) (by decide +kernel)
theorem v_i1617 : Cond.instanceMethod yX11_lines ∈ wU := w_at 1617 (by decide +kernel) (by decide +kernel)
theorem v_i1618 : Cond.selects RX11 yX11_lines yX11_lines ∈ wU := w_at 1618 (by decide +kernel) (by decide +kernel)
theorem vl_L_134 : ∀ w ∈ ([.methodLink RL 134 yX11_lines, .instanceMethod yX11_lines, .selects RX11 yX11_lines yX11_lines, .initialized RX11] : List Cond), w ∈ wU := w_4 v_i1616 v_i1617 v_i1618 v_i84
theorem v_i1623 : Cond.methodLink RL 137 yX11_firstItem ∈ wU := w_at 1623 (by decide +kernel) (by decide +kernel)
theorem v_i1624 : Cond.instanceMethod yX11_firstItem ∈ wU := w_at 1624 (by decide +kernel) (by decide +kernel)
theorem v_i1625 : Cond.selects RX11 yX11_firstItem yX11_firstItem ∈ wU := w_at 1625 (by decide +kernel) (by decide +kernel)
theorem vl_L_137 : ∀ w ∈ ([.methodLink RL 137 yX11_firstItem, .instanceMethod yX11_firstItem, .selects RX11 yX11_firstItem yX11_firstItem, .initialized RX11] : List Cond), w ∈ wU := w_4 v_i1623 v_i1624 v_i1625 v_i84
theorem v_i1630 : Cond.methodLink RL 140 yX11_badness ∈ wU := w_at 1630 (by decide +kernel) (by decide +kernel)
theorem v_i1631 : Cond.instanceMethod yX11_badness ∈ wU := w_at 1631 (by decide +kernel) (by decide +kernel)
theorem v_i1632 : Cond.selects RX11 yX11_badness yX11_badness ∈ wU := w_at 1632 (by decide +kernel) (by decide +kernel)
theorem vl_L_140 : ∀ w ∈ ([.methodLink RL 140 yX11_badness, .instanceMethod yX11_badness, .selects RX11 yX11_badness yX11_badness, .initialized RX11] : List Cond), w ∈ wU := w_4 v_i1630 v_i1631 v_i1632 v_i84
theorem v_i1637 : Cond.methodLink RL 143 yX11_pages ∈ wU := w_at 1637 (by decide +kernel) (by decide +kernel)
theorem v_i1638 : Cond.instanceMethod yX11_pages ∈ wU := w_at 1638 (by decide +kernel) (by decide +kernel)
theorem v_i1639 : Cond.selects RX11 yX11_pages yX11_pages ∈ wU := w_at 1639 (by decide +kernel) (by decide +kernel)
theorem vl_L_143 : ∀ w ∈ ([.methodLink RL 143 yX11_pages, .instanceMethod yX11_pages, .selects RX11 yX11_pages yX11_pages, .initialized RX11] : List Cond), w ∈ wU := w_4 v_i1637 v_i1638 v_i1639 v_i84
theorem v_i1644 : Cond.methodLink RL 146 yX11_pageLines ∈ wU := w_at 1644 (by decide +kernel) (by decide +kernel)
theorem v_i1645 : Cond.instanceMethod yX11_pageLines ∈ wU := w_at 1645 (by decide +kernel) (by decide +kernel)
theorem v_i1646 : Cond.selects RX11 yX11_pageLines yX11_pageLines ∈ wU := w_at 1646 (by decide +kernel) (by decide +kernel)
theorem vl_L_146 : ∀ w ∈ ([.methodLink RL 146 yX11_pageLines, .instanceMethod yX11_pageLines, .selects RX11 yX11_pageLines yX11_pageLines, .initialized RX11] : List Cond), w ∈ wU := w_4 v_i1644 v_i1645 v_i1646 v_i84
theorem v_i1651 : Cond.methodLink RL 149 yX11_pageOf ∈ wU := w_at 1651 (by decide +kernel) (by decide +kernel)
theorem v_i1652 : Cond.instanceMethod yX11_pageOf ∈ wU := w_at 1652 (by decide +kernel) (by decide +kernel)
theorem v_i1653 : Cond.selects RX11 yX11_pageOf yX11_pageOf ∈ wU := w_at 1653 (by decide +kernel) (by decide +kernel)
theorem vl_L_149 : ∀ w ∈ ([.methodLink RL 149 yX11_pageOf, .instanceMethod yX11_pageOf, .selects RX11 yX11_pageOf yX11_pageOf, .initialized RX11] : List Cond), w ∈ wU := w_4 v_i1651 v_i1652 v_i1653 v_i84
theorem v_i1666 : Cond.methodLink RL 152 yX11_pageTurns ∈ wU := w_at 1666 (by decide +kernel) (by decide +kernel)
theorem v_i1667 : Cond.instanceMethod yX11_pageTurns ∈ wU := w_at 1667 (by decide +kernel) (by decide +kernel)
theorem v_i1668 : Cond.selects RX11 yX11_pageTurns yX11_pageTurns ∈ wU := w_at 1668 (by decide +kernel) (by decide +kernel)
theorem vl_L_152 : ∀ w ∈ ([.methodLink RL 152 yX11_pageTurns, .instanceMethod yX11_pageTurns, .selects RX11 yX11_pageTurns yX11_pageTurns, .initialized RX11] : List Cond), w ∈ wU := w_4 v_i1666 v_i1667 v_i1668 v_i84
theorem v_i1673 : Cond.methodLink RL 155 yX11_turnBar ∈ wU := w_at 1673 (by decide +kernel) (by decide +kernel)
theorem v_i1674 : Cond.instanceMethod yX11_turnBar ∈ wU := w_at 1674 (by decide +kernel) (by decide +kernel)
theorem v_i1675 : Cond.selects RX11 yX11_turnBar yX11_turnBar ∈ wU := w_at 1675 (by decide +kernel) (by decide +kernel)
theorem vl_L_155 : ∀ w ∈ ([.methodLink RL 155 yX11_turnBar, .instanceMethod yX11_turnBar, .selects RX11 yX11_turnBar yX11_turnBar, .initialized RX11] : List Cond), w ∈ wU := w_4 v_i1673 v_i1674 v_i1675 v_i84
theorem v_i1680 : Cond.methodLink RL 158 yX11_turnTime ∈ wU := w_at 1680 (by decide +kernel) (by decide +kernel)
theorem v_i1681 : Cond.instanceMethod yX11_turnTime ∈ wU := w_at 1681 (by decide +kernel) (by decide +kernel)
theorem v_i1682 : Cond.selects RX11 yX11_turnTime yX11_turnTime ∈ wU := w_at 1682 (by decide +kernel) (by decide +kernel)
theorem vl_L_158 : ∀ w ∈ ([.methodLink RL 158 yX11_turnTime, .instanceMethod yX11_turnTime, .selects RX11 yX11_turnTime yX11_turnTime, .initialized RX11] : List Cond), w ∈ wU := w_4 v_i1680 v_i1681 v_i1682 v_i84
theorem v_i1687 : Cond.methodLink RL 161 yX11_turnRest ∈ wU := w_at 1687 (by decide +kernel) (by decide +kernel)
theorem v_i1688 : Cond.instanceMethod yX11_turnRest ∈ wU := w_at 1688 (by decide +kernel) (by decide +kernel)
theorem v_i1689 : Cond.selects RX11 yX11_turnRest yX11_turnRest ∈ wU := w_at 1689 (by decide +kernel) (by decide +kernel)
theorem vl_L_161 : ∀ w ∈ ([.methodLink RL 161 yX11_turnRest, .instanceMethod yX11_turnRest, .selects RX11 yX11_turnRest yX11_turnRest, .initialized RX11] : List Cond), w ∈ wU := w_4 v_i1687 v_i1688 v_i1689 v_i84
theorem v_i1694 : Cond.methodLink RL 164 yX11_badTurns ∈ wU := w_at 1694 (by decide +kernel) (by decide +kernel)
theorem v_i1695 : Cond.instanceMethod yX11_badTurns ∈ wU := w_at 1695 (by decide +kernel) (by decide +kernel)
theorem v_i1696 : Cond.selects RX11 yX11_badTurns yX11_badTurns ∈ wU := w_at 1696 (by decide +kernel) (by decide +kernel)
theorem vl_L_164 : ∀ w ∈ ([.methodLink RL 164 yX11_badTurns, .instanceMethod yX11_badTurns, .selects RX11 yX11_badTurns yX11_badTurns, .initialized RX11] : List Cond), w ∈ wU := w_4 v_i1694 v_i1695 v_i1696 v_i84
theorem v_i1705 : Cond.methodLink RL 167 yX11_sheets ∈ wU := w_at 1705 (by decide +kernel) (by decide +kernel)
theorem v_i1706 : Cond.instanceMethod yX11_sheets ∈ wU := w_at 1706 (by decide +kernel) (by decide +kernel)
theorem v_i1707 : Cond.selects RX11 yX11_sheets yX11_sheets ∈ wU := w_at 1707 (by decide +kernel) (by decide +kernel)
theorem vl_L_167 : ∀ w ∈ ([.methodLink RL 167 yX11_sheets, .instanceMethod yX11_sheets, .selects RX11 yX11_sheets yX11_sheets, .initialized RX11] : List Cond), w ∈ wU := w_4 v_i1705 v_i1706 v_i1707 v_i84
theorem v_i1715 : Cond.methodLink RL 170 yX11_sheetPage ∈ wU := w_at 1715 (by decide +kernel) (by decide +kernel)
theorem v_i1716 : Cond.instanceMethod yX11_sheetPage ∈ wU := w_at 1716 (by decide +kernel) (by decide +kernel)
theorem v_i1717 : Cond.selects RX11 yX11_sheetPage yX11_sheetPage ∈ wU := w_at 1717 (by decide +kernel) (by decide +kernel)
theorem vl_L_170 : ∀ w ∈ ([.methodLink RL 170 yX11_sheetPage, .instanceMethod yX11_sheetPage, .selects RX11 yX11_sheetPage yX11_sheetPage, .initialized RX11] : List Cond), w ∈ wU := w_4 v_i1715 v_i1716 v_i1717 v_i84
theorem k_addBar (l : Launch) (D : va_G) (K : Nat → ClassId) (E0 : Nat) (B : Nat × Nat) (A0 : Nat → Prop) (ao o : Nat) (a1 : Int32) (a2 : Int32) (S : CS) (ov : Nat → Int64) (P : Int32 → (Nat → Int64) → CS → Prop) (hk : kdC S o = 14) (h : w_X11_addBar B o a1 a2 S (fun r S' => P 0 (va_up ov 0 (Int32.toInt64 r)) S') (fun E S' => (E = "java/lang/IllegalArgumentException" ∧ P 1 ov S') ∨ (E = "java/lang/IllegalStateException" ∧ P 2 ov S'))) : MetW l yL_addBar cL_addBar 5 [(0, 10, 13, 13), (0, 10, 17, 15)] 9 [.ref o, .int a1, .int a2, .ref ao] P D K E0 B A0 ao S ov := by
  refine gw_start (by decide) rfl (Nat.le_of_ble_eq_true rfl) (fun p e s m args below meth c C htab Em => ?_)
  refine gw_aloadn C 3 3 dL_addBar_0 rfl rfl ?_
  refine gw_iconst C 0 dL_addBar_1 (by decide) ?_
  refine gw_aloadn C 0 0 dL_addBar_2 rfl rfl ?_
  refine gw_iloadn C 1 1 dL_addBar_3 rfl rfl ?_
  refine gw_iloadn C 2 2 dL_addBar_4 rfl rfl ?_
  refine gw_call C (y := yX11_addBar) (as := [.int a1, .int a2]) rfl (by decide) (by decide) (c_X11_addBar l D K E0 B A0 o a1 a2 S _ _ h) hk_X11_addBar rfl vl_L_7 kc_X11_addBar (isC_of hk (by decide)) dL_addBar_5 (Nat.le_of_ble_eq_true rfl) ?_ ?_
  · rintro E S' hx
    rcases hx with ⟨rfl, h⟩ | ⟨rfl, h⟩
    · refine gw_catch C htab [] (0, 10, 13, 13) [(0, 10, 17, 15)] rfl (fun _ h9 => absurd h9 List.not_mem_nil) (by decide +kernel) (by decide) (by decide) v_i508 n_i522 (fun q => ?_)
      refine gw_astore C [(4, .ref q), (0, .ref o), (1, .int a1), (2, .int a2), (3, .ref ao)] dL_addBar_13 (by decide) rfl ?_
      refine gw_iconst C 1 dL_addBar_15 (by decide) ?_
      exact gw_iret C Em dL_addBar_16 h
    · refine gw_catch C htab [(0, 10, 13, 13)] (0, 10, 17, 15) [] rfl (List.forall_mem_cons.mpr ⟨⟨by decide, "java/lang/IllegalArgumentException", v_i508, by decide +kernel, by decide +kernel⟩, fun _ h9 => absurd h9 List.not_mem_nil⟩) (by decide +kernel) (by decide) (by decide) v_i509 n_i591 (fun q => ?_)
      refine gw_astore C [(4, .ref q), (0, .ref o), (1, .int a1), (2, .int a2), (3, .ref ao)] dL_addBar_17 (by decide) rfl ?_
      refine gw_iconst C 2 dL_addBar_19 (by decide) ?_
      exact gw_iret C Em dL_addBar_20 h
  · rintro v S' ⟨r, rfl, h⟩ _
    refine gw_i2l C dL_addBar_8 ?_
    refine gw_out C dL_addBar_9 ?_
    refine gw_goto C 21 dL_addBar_10 (by decide) ?_
    refine gw_iconst C 0 dL_addBar_21 (by decide) ?_
    exact gw_iret C Em dL_addBar_22 h
theorem k_setMetre (l : Launch) (D : va_G) (K : Nat → ClassId) (E0 : Nat) (B : Nat × Nat) (A0 : Nat → Prop) (ao o : Nat) (a1 : Int32) (a2 : Int32) (a3 : Int32) (S : CS) (ov : Nat → Int64) (P : Int32 → (Nat → Int64) → CS → Prop) (hk : kdC S o = 14) (h : w_X11_setMetre B o a1 a2 a3 S (fun r S' => P 0 (va_up ov 0 (Int32.toInt64 r)) S') (fun E S' => (E = "java/lang/IndexOutOfBoundsException" ∧ P 1 ov S') ∨ (E = "java/lang/IllegalArgumentException" ∧ P 2 ov S') ∨ (E = "java/lang/IllegalStateException" ∧ P 3 ov S'))) : MetW l yL_setMetre cL_setMetre 6 [(0, 12, 15, 21), (0, 12, 19, 13), (0, 12, 23, 15)] 9 [.ref o, .int a1, .int a2, .int a3, .ref ao] P D K E0 B A0 ao S ov := by
  refine gw_start (by decide) rfl (Nat.le_of_ble_eq_true rfl) (fun p e s m args below meth c C htab Em => ?_)
  refine gw_aload C 4 dL_setMetre_0 rfl ?_
  refine gw_iconst C 0 dL_setMetre_2 (by decide) ?_
  refine gw_aloadn C 0 0 dL_setMetre_3 rfl rfl ?_
  refine gw_iloadn C 1 1 dL_setMetre_4 rfl rfl ?_
  refine gw_iloadn C 2 2 dL_setMetre_5 rfl rfl ?_
  refine gw_iloadn C 3 3 dL_setMetre_6 rfl rfl ?_
  refine gw_call C (y := yX11_setMetre) (as := [.int a1, .int a2, .int a3]) rfl (by decide) (by decide) (c_X11_setMetre l D K E0 B A0 o a1 a2 a3 S _ _ h) hk_X11_setMetre rfl vl_L_17 kc_X11_setMetre (isC_of hk (by decide)) dL_setMetre_7 (Nat.le_of_ble_eq_true rfl) ?_ ?_
  · rintro E S' hx
    rcases hx with ⟨rfl, h⟩ | ⟨rfl, h⟩ | ⟨rfl, h⟩
    · refine gw_catch C htab [] (0, 12, 15, 21) [(0, 12, 19, 13), (0, 12, 23, 15)] rfl (fun _ h9 => absurd h9 List.not_mem_nil) (by decide +kernel) (by decide) (by decide) v_i657 n_i671 (fun q => ?_)
      refine gw_astore C [(5, .ref q), (0, .ref o), (1, .int a1), (2, .int a2), (3, .int a3), (4, .ref ao)] dL_setMetre_15 (by decide) rfl ?_
      refine gw_iconst C 1 dL_setMetre_17 (by decide) ?_
      exact gw_iret C Em dL_setMetre_18 h
    · refine gw_catch C htab [(0, 12, 15, 21)] (0, 12, 19, 13) [(0, 12, 23, 15)] rfl (List.forall_mem_cons.mpr ⟨⟨by decide, "java/lang/IndexOutOfBoundsException", v_i657, by decide +kernel, by decide +kernel⟩, fun _ h9 => absurd h9 List.not_mem_nil⟩) (by decide +kernel) (by decide) (by decide) v_i508 n_i522 (fun q => ?_)
      refine gw_astore C [(5, .ref q), (0, .ref o), (1, .int a1), (2, .int a2), (3, .int a3), (4, .ref ao)] dL_setMetre_19 (by decide) rfl ?_
      refine gw_iconst C 2 dL_setMetre_21 (by decide) ?_
      exact gw_iret C Em dL_setMetre_22 h
    · refine gw_catch C htab [(0, 12, 15, 21), (0, 12, 19, 13)] (0, 12, 23, 15) [] rfl (List.forall_mem_cons.mpr ⟨⟨by decide, "java/lang/IndexOutOfBoundsException", v_i657, by decide +kernel, by decide +kernel⟩, List.forall_mem_cons.mpr ⟨⟨by decide, "java/lang/IllegalArgumentException", v_i508, by decide +kernel, by decide +kernel⟩, fun _ h9 => absurd h9 List.not_mem_nil⟩⟩) (by decide +kernel) (by decide) (by decide) v_i509 n_i591 (fun q => ?_)
      refine gw_astore C [(5, .ref q), (0, .ref o), (1, .int a1), (2, .int a2), (3, .int a3), (4, .ref ao)] dL_setMetre_23 (by decide) rfl ?_
      refine gw_iconst C 3 dL_setMetre_25 (by decide) ?_
      exact gw_iret C Em dL_setMetre_26 h
  · rintro v S' ⟨r, rfl, h⟩ _
    refine gw_i2l C dL_setMetre_10 ?_
    refine gw_out C dL_setMetre_11 ?_
    refine gw_goto C 27 dL_setMetre_12 (by decide) ?_
    refine gw_iconst C 0 dL_setMetre_27 (by decide) ?_
    exact gw_iret C Em dL_setMetre_28 h
theorem k_setTempo (l : Launch) (D : va_G) (K : Nat → ClassId) (E0 : Nat) (B : Nat × Nat) (A0 : Nat → Prop) (ao o : Nat) (a1 : Int32) (a2 : Int32) (S : CS) (ov : Nat → Int64) (P : Int32 → (Nat → Int64) → CS → Prop) (hk : kdC S o = 14) (h : w_X11_setTempo B o a1 a2 S (fun r S' => P 0 (va_up ov 0 (Int32.toInt64 r)) S') (fun E S' => (E = "java/lang/IndexOutOfBoundsException" ∧ P 1 ov S') ∨ (E = "java/lang/IllegalArgumentException" ∧ P 2 ov S'))) : MetW l yL_setTempo cL_setTempo 5 [(0, 10, 13, 21), (0, 10, 17, 13)] 9 [.ref o, .int a1, .int a2, .ref ao] P D K E0 B A0 ao S ov := by
  refine gw_start (by decide) rfl (Nat.le_of_ble_eq_true rfl) (fun p e s m args below meth c C htab Em => ?_)
  refine gw_aloadn C 3 3 dL_setTempo_0 rfl rfl ?_
  refine gw_iconst C 0 dL_setTempo_1 (by decide) ?_
  refine gw_aloadn C 0 0 dL_setTempo_2 rfl rfl ?_
  refine gw_iloadn C 1 1 dL_setTempo_3 rfl rfl ?_
  refine gw_iloadn C 2 2 dL_setTempo_4 rfl rfl ?_
  refine gw_call C (y := yX11_setTempo) (as := [.int a1, .int a2]) rfl (by decide) (by decide) (c_X11_setTempo l D K E0 B A0 o a1 a2 S _ _ h) hk_X11_setTempo rfl vl_L_23 kc_X11_setTempo (isC_of hk (by decide)) dL_setTempo_5 (Nat.le_of_ble_eq_true rfl) ?_ ?_
  · rintro E S' hx
    rcases hx with ⟨rfl, h⟩ | ⟨rfl, h⟩
    · refine gw_catch C htab [] (0, 10, 13, 21) [(0, 10, 17, 13)] rfl (fun _ h9 => absurd h9 List.not_mem_nil) (by decide +kernel) (by decide) (by decide) v_i657 n_i671 (fun q => ?_)
      refine gw_astore C [(4, .ref q), (0, .ref o), (1, .int a1), (2, .int a2), (3, .ref ao)] dL_setTempo_13 (by decide) rfl ?_
      refine gw_iconst C 1 dL_setTempo_15 (by decide) ?_
      exact gw_iret C Em dL_setTempo_16 h
    · refine gw_catch C htab [(0, 10, 13, 21)] (0, 10, 17, 13) [] rfl (List.forall_mem_cons.mpr ⟨⟨by decide, "java/lang/IndexOutOfBoundsException", v_i657, by decide +kernel, by decide +kernel⟩, fun _ h9 => absurd h9 List.not_mem_nil⟩) (by decide +kernel) (by decide) (by decide) v_i508 n_i522 (fun q => ?_)
      refine gw_astore C [(4, .ref q), (0, .ref o), (1, .int a1), (2, .int a2), (3, .ref ao)] dL_setTempo_17 (by decide) rfl ?_
      refine gw_iconst C 2 dL_setTempo_19 (by decide) ?_
      exact gw_iret C Em dL_setTempo_20 h
  · rintro v S' ⟨r, rfl, h⟩ _
    refine gw_i2l C dL_setTempo_8 ?_
    refine gw_out C dL_setTempo_9 ?_
    refine gw_goto C 21 dL_setTempo_10 (by decide) ?_
    refine gw_iconst C 0 dL_setTempo_21 (by decide) ?_
    exact gw_iret C Em dL_setTempo_22 h
theorem k_length (l : Launch) (D : va_G) (K : Nat → ClassId) (E0 : Nat) (B : Nat × Nat) (A0 : Nat → Prop) (ao o : Nat) (a1 : Int32) (S : CS) (ov : Nat → Int64) (P : Int32 → (Nat → Int64) → CS → Prop) (hk : kdC S o = 14) (h : w_X11_length B o a1 S (fun r S' => P 0 (va_up ov 0 (Int32.toInt64 r)) S') (fun E S' => (E = "java/lang/IndexOutOfBoundsException" ∧ P 1 ov S'))) : MetW l yL_length cL_length 4 [(0, 9, 12, 21)] 9 [.ref o, .int a1, .ref ao] P D K E0 B A0 ao S ov := by
  refine gw_start (by decide) rfl (Nat.le_of_ble_eq_true rfl) (fun p e s m args below meth c C htab Em => ?_)
  refine gw_aloadn C 2 2 dL_length_0 rfl rfl ?_
  refine gw_iconst C 0 dL_length_1 (by decide) ?_
  refine gw_aloadn C 0 0 dL_length_2 rfl rfl ?_
  refine gw_iloadn C 1 1 dL_length_3 rfl rfl ?_
  refine gw_call C (y := yX11_length) (as := [.int a1]) rfl (by decide) (by decide) (c_X11_length l D K E0 B A0 o a1 S _ _ h) hk_X11_length rfl vl_L_26 kc_X11_length (isC_of hk (by decide)) dL_length_4 (Nat.le_of_ble_eq_true rfl) ?_ ?_
  · rintro E S' hx
    rcases hx with ⟨rfl, h⟩
    · refine gw_catch C htab [] (0, 9, 12, 21) [] rfl (fun _ h9 => absurd h9 List.not_mem_nil) (by decide +kernel) (by decide) (by decide) v_i657 n_i671 (fun q => ?_)
      refine gw_astoren C 3 [(3, .ref q), (0, .ref o), (1, .int a1), (2, .ref ao)] dL_length_12 rfl (by decide) rfl ?_
      refine gw_iconst C 1 dL_length_13 (by decide) ?_
      exact gw_iret C Em dL_length_14 h
  · rintro v S' ⟨r, rfl, h⟩ _
    refine gw_i2l C dL_length_7 ?_
    refine gw_out C dL_length_8 ?_
    refine gw_goto C 15 dL_length_9 (by decide) ?_
    refine gw_iconst C 0 dL_length_15 (by decide) ?_
    exact gw_iret C Em dL_length_16 h
theorem k_tempo (l : Launch) (D : va_G) (K : Nat → ClassId) (E0 : Nat) (B : Nat × Nat) (A0 : Nat → Prop) (ao o : Nat) (a1 : Int32) (S : CS) (ov : Nat → Int64) (P : Int32 → (Nat → Int64) → CS → Prop) (hk : kdC S o = 14) (h : w_X11_tempo B o a1 S (fun r S' => P 0 (va_up ov 0 (Int32.toInt64 r)) S') (fun E S' => (E = "java/lang/IndexOutOfBoundsException" ∧ P 1 ov S'))) : MetW l yL_tempo cL_tempo 4 [(0, 9, 12, 21)] 9 [.ref o, .int a1, .ref ao] P D K E0 B A0 ao S ov := by
  refine gw_start (by decide) rfl (Nat.le_of_ble_eq_true rfl) (fun p e s m args below meth c C htab Em => ?_)
  refine gw_aloadn C 2 2 dL_tempo_0 rfl rfl ?_
  refine gw_iconst C 0 dL_tempo_1 (by decide) ?_
  refine gw_aloadn C 0 0 dL_tempo_2 rfl rfl ?_
  refine gw_iloadn C 1 1 dL_tempo_3 rfl rfl ?_
  refine gw_call C (y := yX11_tempo) (as := [.int a1]) rfl (by decide) (by decide) (c_X11_tempo l D K E0 B A0 o a1 S _ _ h) hk_X11_tempo rfl vl_L_30 kc_X11_tempo (isC_of hk (by decide)) dL_tempo_4 (Nat.le_of_ble_eq_true rfl) ?_ ?_
  · rintro E S' hx
    rcases hx with ⟨rfl, h⟩
    · refine gw_catch C htab [] (0, 9, 12, 21) [] rfl (fun _ h9 => absurd h9 List.not_mem_nil) (by decide +kernel) (by decide) (by decide) v_i657 n_i671 (fun q => ?_)
      refine gw_astoren C 3 [(3, .ref q), (0, .ref o), (1, .int a1), (2, .ref ao)] dL_tempo_12 rfl (by decide) rfl ?_
      refine gw_iconst C 1 dL_tempo_13 (by decide) ?_
      exact gw_iret C Em dL_tempo_14 h
  · rintro v S' ⟨r, rfl, h⟩ _
    refine gw_i2l C dL_tempo_7 ?_
    refine gw_out C dL_tempo_8 ?_
    refine gw_goto C 15 dL_tempo_9 (by decide) ?_
    refine gw_iconst C 0 dL_tempo_15 (by decide) ?_
    exact gw_iret C Em dL_tempo_16 h
theorem k_time (l : Launch) (D : va_G) (K : Nat → ClassId) (E0 : Nat) (B : Nat × Nat) (A0 : Nat → Prop) (ao o : Nat) (a1 : Int32) (S : CS) (ov : Nat → Int64) (P : Int32 → (Nat → Int64) → CS → Prop) (hk : kdC S o = 14) (h : w_X11_time B o a1 S (fun r S' => P 0 (va_up ov 0 (Int32.toInt64 r)) S') (fun E S' => (E = "java/lang/IndexOutOfBoundsException" ∧ P 1 ov S'))) : MetW l yL_time cL_time 4 [(0, 9, 12, 21)] 9 [.ref o, .int a1, .ref ao] P D K E0 B A0 ao S ov := by
  refine gw_start (by decide) rfl (Nat.le_of_ble_eq_true rfl) (fun p e s m args below meth c C htab Em => ?_)
  refine gw_aloadn C 2 2 dL_time_0 rfl rfl ?_
  refine gw_iconst C 0 dL_time_1 (by decide) ?_
  refine gw_aloadn C 0 0 dL_time_2 rfl rfl ?_
  refine gw_iloadn C 1 1 dL_time_3 rfl rfl ?_
  refine gw_call C (y := yX11_time) (as := [.int a1]) rfl (by decide) (by decide) (c_X11_time l D K E0 B A0 o a1 S _ _ h) hk_X11_time rfl vl_L_33 kc_X11_time (isC_of hk (by decide)) dL_time_4 (Nat.le_of_ble_eq_true rfl) ?_ ?_
  · rintro E S' hx
    rcases hx with ⟨rfl, h⟩
    · refine gw_catch C htab [] (0, 9, 12, 21) [] rfl (fun _ h9 => absurd h9 List.not_mem_nil) (by decide +kernel) (by decide) (by decide) v_i657 n_i671 (fun q => ?_)
      refine gw_astoren C 3 [(3, .ref q), (0, .ref o), (1, .int a1), (2, .ref ao)] dL_time_12 rfl (by decide) rfl ?_
      refine gw_iconst C 1 dL_time_13 (by decide) ?_
      exact gw_iret C Em dL_time_14 h
  · rintro v S' ⟨r, rfl, h⟩ _
    refine gw_i2l C dL_time_7 ?_
    refine gw_out C dL_time_8 ?_
    refine gw_goto C 15 dL_time_9 (by decide) ?_
    refine gw_iconst C 0 dL_time_15 (by decide) ?_
    exact gw_iret C Em dL_time_16 h
theorem k_insert (l : Launch) (D : va_G) (K : Nat → ClassId) (E0 : Nat) (B : Nat × Nat) (A0 : Nat → Prop) (ao o : Nat) (a1 : Int32) (a2 : Int32) (a3 : Int32) (a4 : Int32) (a5 : Int32) (a6 : Int32) (S : CS) (ov : Nat → Int64) (P : Int32 → (Nat → Int64) → CS → Prop) (hk : kdC S o = 14) (h : w_X11_insert B o a1 a2 a3 a4 a5 a6 S (fun r S' => P 0 (va_up ov 0 (Int32.toInt64 r)) S') (fun E S' => (E = "java/lang/IllegalArgumentException" ∧ P 1 ov S') ∨ (E = "java/lang/IndexOutOfBoundsException" ∧ P 2 ov S') ∨ (E = "java/lang/IllegalStateException" ∧ P 3 ov S'))) : MetW l yL_insert cL_insert 9 [(0, 18, 21, 13), (0, 18, 25, 21), (0, 18, 29, 15)] 9 [.ref o, .int a1, .int a2, .int a3, .int a4, .int a5, .int a6, .ref ao] P D K E0 B A0 ao S ov := by
  refine gw_start (by decide) rfl (Nat.le_of_ble_eq_true rfl) (fun p e s m args below meth c C htab Em => ?_)
  refine gw_aload C 7 dL_insert_0 rfl ?_
  refine gw_iconst C 0 dL_insert_2 (by decide) ?_
  refine gw_aloadn C 0 0 dL_insert_3 rfl rfl ?_
  refine gw_iloadn C 1 1 dL_insert_4 rfl rfl ?_
  refine gw_iloadn C 2 2 dL_insert_5 rfl rfl ?_
  refine gw_iloadn C 3 3 dL_insert_6 rfl rfl ?_
  refine gw_iload C 4 dL_insert_7 rfl ?_
  refine gw_iload C 5 dL_insert_9 rfl ?_
  refine gw_iload C 6 dL_insert_11 rfl ?_
  refine gw_call C (y := yX11_insert) (as := [.int a1, .int a2, .int a3, .int a4, .int a5, .int a6]) rfl (by decide) (by decide) (c_X11_insert l D K E0 B A0 o a1 a2 a3 a4 a5 a6 S _ _ h) hk_X11_insert rfl vl_L_36 kc_X11_insert (isC_of hk (by decide)) dL_insert_13 (Nat.le_of_ble_eq_true rfl) ?_ ?_
  · rintro E S' hx
    rcases hx with ⟨rfl, h⟩ | ⟨rfl, h⟩ | ⟨rfl, h⟩
    · refine gw_catch C htab [] (0, 18, 21, 13) [(0, 18, 25, 21), (0, 18, 29, 15)] rfl (fun _ h9 => absurd h9 List.not_mem_nil) (by decide +kernel) (by decide) (by decide) v_i508 n_i522 (fun q => ?_)
      refine gw_astore C [(8, .ref q), (0, .ref o), (1, .int a1), (2, .int a2), (3, .int a3), (4, .int a4), (5, .int a5), (6, .int a6), (7, .ref ao)] dL_insert_21 (by decide) rfl ?_
      refine gw_iconst C 1 dL_insert_23 (by decide) ?_
      exact gw_iret C Em dL_insert_24 h
    · refine gw_catch C htab [(0, 18, 21, 13)] (0, 18, 25, 21) [(0, 18, 29, 15)] rfl (List.forall_mem_cons.mpr ⟨⟨by decide, "java/lang/IllegalArgumentException", v_i508, by decide +kernel, by decide +kernel⟩, fun _ h9 => absurd h9 List.not_mem_nil⟩) (by decide +kernel) (by decide) (by decide) v_i657 n_i671 (fun q => ?_)
      refine gw_astore C [(8, .ref q), (0, .ref o), (1, .int a1), (2, .int a2), (3, .int a3), (4, .int a4), (5, .int a5), (6, .int a6), (7, .ref ao)] dL_insert_25 (by decide) rfl ?_
      refine gw_iconst C 2 dL_insert_27 (by decide) ?_
      exact gw_iret C Em dL_insert_28 h
    · refine gw_catch C htab [(0, 18, 21, 13), (0, 18, 25, 21)] (0, 18, 29, 15) [] rfl (List.forall_mem_cons.mpr ⟨⟨by decide, "java/lang/IllegalArgumentException", v_i508, by decide +kernel, by decide +kernel⟩, List.forall_mem_cons.mpr ⟨⟨by decide, "java/lang/IndexOutOfBoundsException", v_i657, by decide +kernel, by decide +kernel⟩, fun _ h9 => absurd h9 List.not_mem_nil⟩⟩) (by decide +kernel) (by decide) (by decide) v_i509 n_i591 (fun q => ?_)
      refine gw_astore C [(8, .ref q), (0, .ref o), (1, .int a1), (2, .int a2), (3, .int a3), (4, .int a4), (5, .int a5), (6, .int a6), (7, .ref ao)] dL_insert_29 (by decide) rfl ?_
      refine gw_iconst C 3 dL_insert_31 (by decide) ?_
      exact gw_iret C Em dL_insert_32 h
  · rintro v S' ⟨r, rfl, h⟩ _
    refine gw_i2l C dL_insert_16 ?_
    refine gw_out C dL_insert_17 ?_
    refine gw_goto C 33 dL_insert_18 (by decide) ?_
    refine gw_iconst C 0 dL_insert_33 (by decide) ?_
    exact gw_iret C Em dL_insert_34 h
theorem k_remove (l : Launch) (D : va_G) (K : Nat → ClassId) (E0 : Nat) (B : Nat × Nat) (A0 : Nat → Prop) (ao o : Nat) (a1 : Int32) (a2 : Int32) (a3 : Int32) (S : CS) (ov : Nat → Int64) (P : Int32 → (Nat → Int64) → CS → Prop) (hk : kdC S o = 14) (h : w_X11_remove B o a1 a2 a3 S (fun r S' => P 0 (va_up ov 0 (Int32.toInt64 r)) S') (fun E S' => (E = "java/lang/IllegalArgumentException" ∧ P 1 ov S') ∨ (E = "java/lang/IndexOutOfBoundsException" ∧ P 2 ov S'))) : MetW l yL_remove cL_remove 6 [(0, 12, 15, 13), (0, 12, 19, 21)] 10 [.ref o, .int a1, .int a2, .int a3, .ref ao] P D K E0 B A0 ao S ov := by
  refine gw_start (by decide) rfl (Nat.le_of_ble_eq_true rfl) (fun p e s m args below meth c C htab Em => ?_)
  refine gw_aload C 4 dL_remove_0 rfl ?_
  refine gw_iconst C 0 dL_remove_2 (by decide) ?_
  refine gw_aloadn C 0 0 dL_remove_3 rfl rfl ?_
  refine gw_iloadn C 1 1 dL_remove_4 rfl rfl ?_
  refine gw_iloadn C 2 2 dL_remove_5 rfl rfl ?_
  refine gw_iloadn C 3 3 dL_remove_6 rfl rfl ?_
  refine gw_call C (y := yX11_remove) (as := [.int a1, .int a2, .int a3]) rfl (by decide) (by decide) (c_X11_remove l D K E0 B A0 o a1 a2 a3 S _ _ h) hk_X11_remove rfl vl_L_40 kc_X11_remove (isC_of hk (by decide)) dL_remove_7 (Nat.le_of_ble_eq_true rfl) ?_ ?_
  · rintro E S' hx
    rcases hx with ⟨rfl, h⟩ | ⟨rfl, h⟩
    · refine gw_catch C htab [] (0, 12, 15, 13) [(0, 12, 19, 21)] rfl (fun _ h9 => absurd h9 List.not_mem_nil) (by decide +kernel) (by decide) (by decide) v_i508 n_i522 (fun q => ?_)
      refine gw_astore C [(5, .ref q), (0, .ref o), (1, .int a1), (2, .int a2), (3, .int a3), (4, .ref ao)] dL_remove_15 (by decide) rfl ?_
      refine gw_iconst C 1 dL_remove_17 (by decide) ?_
      exact gw_iret C Em dL_remove_18 h
    · refine gw_catch C htab [(0, 12, 15, 13)] (0, 12, 19, 21) [] rfl (List.forall_mem_cons.mpr ⟨⟨by decide, "java/lang/IllegalArgumentException", v_i508, by decide +kernel, by decide +kernel⟩, fun _ h9 => absurd h9 List.not_mem_nil⟩) (by decide +kernel) (by decide) (by decide) v_i657 n_i671 (fun q => ?_)
      refine gw_astore C [(5, .ref q), (0, .ref o), (1, .int a1), (2, .int a2), (3, .int a3), (4, .ref ao)] dL_remove_19 (by decide) rfl ?_
      refine gw_iconst C 2 dL_remove_21 (by decide) ?_
      exact gw_iret C Em dL_remove_22 h
  · rintro v S' ⟨r, rfl, h⟩ _
    refine gw_i2l C dL_remove_10 ?_
    refine gw_out C dL_remove_11 ?_
    refine gw_goto C 23 dL_remove_12 (by decide) ?_
    refine gw_iconst C 0 dL_remove_23 (by decide) ?_
    exact gw_iret C Em dL_remove_24 h
theorem k_setPitch (l : Launch) (D : va_G) (K : Nat → ClassId) (E0 : Nat) (B : Nat × Nat) (A0 : Nat → Prop) (ao o : Nat) (a1 : Int32) (a2 : Int32) (a3 : Int32) (a4 : Int32) (S : CS) (ov : Nat → Int64) (P : Int32 → (Nat → Int64) → CS → Prop) (hk : kdC S o = 14) (h : w_X11_setPitch B o a1 a2 a3 a4 S (fun r S' => P 0 (va_up ov 0 (Int32.toInt64 r)) S') (fun E S' => (E = "java/lang/IllegalArgumentException" ∧ P 1 ov S') ∨ (E = "java/lang/IndexOutOfBoundsException" ∧ P 2 ov S') ∨ (E = "java/lang/IllegalStateException" ∧ P 3 ov S'))) : MetW l yL_setPitch cL_setPitch 7 [(0, 14, 17, 13), (0, 14, 21, 21), (0, 14, 25, 15)] 10 [.ref o, .int a1, .int a2, .int a3, .int a4, .ref ao] P D K E0 B A0 ao S ov := by
  refine gw_start (by decide) rfl (Nat.le_of_ble_eq_true rfl) (fun p e s m args below meth c C htab Em => ?_)
  refine gw_aload C 5 dL_setPitch_0 rfl ?_
  refine gw_iconst C 0 dL_setPitch_2 (by decide) ?_
  refine gw_aloadn C 0 0 dL_setPitch_3 rfl rfl ?_
  refine gw_iloadn C 1 1 dL_setPitch_4 rfl rfl ?_
  refine gw_iloadn C 2 2 dL_setPitch_5 rfl rfl ?_
  refine gw_iloadn C 3 3 dL_setPitch_6 rfl rfl ?_
  refine gw_iload C 4 dL_setPitch_7 rfl ?_
  refine gw_call C (y := yX11_setPitch) (as := [.int a1, .int a2, .int a3, .int a4]) rfl (by decide) (by decide) (c_X11_setPitch l D K E0 B A0 o a1 a2 a3 a4 S _ _ h) hk_X11_setPitch rfl vl_L_43 kc_X11_setPitch (isC_of hk (by decide)) dL_setPitch_9 (Nat.le_of_ble_eq_true rfl) ?_ ?_
  · rintro E S' hx
    rcases hx with ⟨rfl, h⟩ | ⟨rfl, h⟩ | ⟨rfl, h⟩
    · refine gw_catch C htab [] (0, 14, 17, 13) [(0, 14, 21, 21), (0, 14, 25, 15)] rfl (fun _ h9 => absurd h9 List.not_mem_nil) (by decide +kernel) (by decide) (by decide) v_i508 n_i522 (fun q => ?_)
      refine gw_astore C [(6, .ref q), (0, .ref o), (1, .int a1), (2, .int a2), (3, .int a3), (4, .int a4), (5, .ref ao)] dL_setPitch_17 (by decide) rfl ?_
      refine gw_iconst C 1 dL_setPitch_19 (by decide) ?_
      exact gw_iret C Em dL_setPitch_20 h
    · refine gw_catch C htab [(0, 14, 17, 13)] (0, 14, 21, 21) [(0, 14, 25, 15)] rfl (List.forall_mem_cons.mpr ⟨⟨by decide, "java/lang/IllegalArgumentException", v_i508, by decide +kernel, by decide +kernel⟩, fun _ h9 => absurd h9 List.not_mem_nil⟩) (by decide +kernel) (by decide) (by decide) v_i657 n_i671 (fun q => ?_)
      refine gw_astore C [(6, .ref q), (0, .ref o), (1, .int a1), (2, .int a2), (3, .int a3), (4, .int a4), (5, .ref ao)] dL_setPitch_21 (by decide) rfl ?_
      refine gw_iconst C 2 dL_setPitch_23 (by decide) ?_
      exact gw_iret C Em dL_setPitch_24 h
    · refine gw_catch C htab [(0, 14, 17, 13), (0, 14, 21, 21)] (0, 14, 25, 15) [] rfl (List.forall_mem_cons.mpr ⟨⟨by decide, "java/lang/IllegalArgumentException", v_i508, by decide +kernel, by decide +kernel⟩, List.forall_mem_cons.mpr ⟨⟨by decide, "java/lang/IndexOutOfBoundsException", v_i657, by decide +kernel, by decide +kernel⟩, fun _ h9 => absurd h9 List.not_mem_nil⟩⟩) (by decide +kernel) (by decide) (by decide) v_i509 n_i591 (fun q => ?_)
      refine gw_astore C [(6, .ref q), (0, .ref o), (1, .int a1), (2, .int a2), (3, .int a3), (4, .int a4), (5, .ref ao)] dL_setPitch_25 (by decide) rfl ?_
      refine gw_iconst C 3 dL_setPitch_27 (by decide) ?_
      exact gw_iret C Em dL_setPitch_28 h
  · rintro v S' ⟨r, rfl, h⟩ _
    refine gw_i2l C dL_setPitch_12 ?_
    refine gw_out C dL_setPitch_13 ?_
    refine gw_goto C 29 dL_setPitch_14 (by decide) ?_
    refine gw_iconst C 0 dL_setPitch_29 (by decide) ?_
    exact gw_iret C Em dL_setPitch_30 h
theorem k_setTie (l : Launch) (D : va_G) (K : Nat → ClassId) (E0 : Nat) (B : Nat × Nat) (A0 : Nat → Prop) (ao o : Nat) (a1 : Int32) (a2 : Int32) (a3 : Int32) (a4 : Int32) (S : CS) (ov : Nat → Int64) (P : Int32 → (Nat → Int64) → CS → Prop) (hk : kdC S o = 14) (h : w_X11_setTie B o a1 a2 a3 a4 S (fun r S' => (¬ r = 0 → P 0 (va_up ov 0 1) S') ∧ (r = 0 → P 0 (va_up ov 0 0) S')) (fun E S' => (E = "java/lang/IllegalArgumentException" ∧ P 1 ov S') ∨ (E = "java/lang/IndexOutOfBoundsException" ∧ P 2 ov S') ∨ (E = "java/lang/IllegalStateException" ∧ P 3 ov S'))) : MetW l yL_setTie cL_setTie 7 [(0, 21, 24, 13), (0, 21, 28, 21), (0, 21, 32, 15)] 10 [.ref o, .int a1, .int a2, .int a3, .int a4, .ref ao] P D K E0 B A0 ao S ov := by
  refine gw_start (by decide) rfl (Nat.le_of_ble_eq_true rfl) (fun p e s m args below meth c C htab Em => ?_)
  refine gw_aload C 5 dL_setTie_0 rfl ?_
  refine gw_iconst C 0 dL_setTie_2 (by decide) ?_
  refine gw_aloadn C 0 0 dL_setTie_3 rfl rfl ?_
  refine gw_iloadn C 1 1 dL_setTie_4 rfl rfl ?_
  refine gw_iloadn C 2 2 dL_setTie_5 rfl rfl ?_
  refine gw_iloadn C 3 3 dL_setTie_6 rfl rfl ?_
  refine gw_iload C 4 dL_setTie_7 rfl ?_
  refine gw_call C (y := yX11_setTie) (as := [.int a1, .int a2, .int a3, .int a4]) rfl (by decide) (by decide) (c_X11_setTie l D K E0 B A0 o a1 a2 a3 a4 S _ _ h) hk_X11_setTie rfl vl_L_47 kc_X11_setTie (isC_of hk (by decide)) dL_setTie_9 (Nat.le_of_ble_eq_true rfl) ?_ ?_
  · rintro E S' hx
    rcases hx with ⟨rfl, h⟩ | ⟨rfl, h⟩ | ⟨rfl, h⟩
    · refine gw_catch C htab [] (0, 21, 24, 13) [(0, 21, 28, 21), (0, 21, 32, 15)] rfl (fun _ h9 => absurd h9 List.not_mem_nil) (by decide +kernel) (by decide) (by decide) v_i508 n_i522 (fun q => ?_)
      refine gw_astore C [(6, .ref q), (0, .ref o), (1, .int a1), (2, .int a2), (3, .int a3), (4, .int a4), (5, .ref ao)] dL_setTie_24 (by decide) rfl ?_
      refine gw_iconst C 1 dL_setTie_26 (by decide) ?_
      exact gw_iret C Em dL_setTie_27 h
    · refine gw_catch C htab [(0, 21, 24, 13)] (0, 21, 28, 21) [(0, 21, 32, 15)] rfl (List.forall_mem_cons.mpr ⟨⟨by decide, "java/lang/IllegalArgumentException", v_i508, by decide +kernel, by decide +kernel⟩, fun _ h9 => absurd h9 List.not_mem_nil⟩) (by decide +kernel) (by decide) (by decide) v_i657 n_i671 (fun q => ?_)
      refine gw_astore C [(6, .ref q), (0, .ref o), (1, .int a1), (2, .int a2), (3, .int a3), (4, .int a4), (5, .ref ao)] dL_setTie_28 (by decide) rfl ?_
      refine gw_iconst C 2 dL_setTie_30 (by decide) ?_
      exact gw_iret C Em dL_setTie_31 h
    · refine gw_catch C htab [(0, 21, 24, 13), (0, 21, 28, 21)] (0, 21, 32, 15) [] rfl (List.forall_mem_cons.mpr ⟨⟨by decide, "java/lang/IllegalArgumentException", v_i508, by decide +kernel, by decide +kernel⟩, List.forall_mem_cons.mpr ⟨⟨by decide, "java/lang/IndexOutOfBoundsException", v_i657, by decide +kernel, by decide +kernel⟩, fun _ h9 => absurd h9 List.not_mem_nil⟩⟩) (by decide +kernel) (by decide) (by decide) v_i509 n_i591 (fun q => ?_)
      refine gw_astore C [(6, .ref q), (0, .ref o), (1, .int a1), (2, .int a2), (3, .int a3), (4, .int a4), (5, .ref ao)] dL_setTie_32 (by decide) rfl ?_
      refine gw_iconst C 3 dL_setTie_34 (by decide) ?_
      exact gw_iret C Em dL_setTie_35 h
  · rintro v S' ⟨r, rfl, h⟩ _
    refine gw_if_eq C 19 dL_setTie_12 (by decide) (fun c1 => ?_) (fun c1 => ?_)
    · have h := h.2 c1
      refine gw_lconst C 0 dL_setTie_19 (by decide) ?_
      refine gw_out C dL_setTie_20 ?_
      refine gw_goto C 36 dL_setTie_21 (by decide) ?_
      refine gw_iconst C 0 dL_setTie_36 (by decide) ?_
      exact gw_iret C Em dL_setTie_37 h
    · have h := h.1 c1
      refine gw_lconst C 1 dL_setTie_15 (by decide) ?_
      refine gw_goto C 20 dL_setTie_16 (by decide) ?_
      refine gw_out C dL_setTie_20 ?_
      refine gw_goto C 36 dL_setTie_21 (by decide) ?_
      refine gw_iconst C 0 dL_setTie_36 (by decide) ?_
      exact gw_iret C Em dL_setTie_37 h
theorem k_setMark (l : Launch) (D : va_G) (K : Nat → ClassId) (E0 : Nat) (B : Nat × Nat) (A0 : Nat → Prop) (ao o : Nat) (a1 : Int32) (a2 : Int32) (a3 : Int32) (a4 : Int32) (S : CS) (ov : Nat → Int64) (P : Int32 → (Nat → Int64) → CS → Prop) (hk : kdC S o = 14) (h : w_X11_setMark B o a1 a2 a3 a4 S (fun r S' => P 0 (va_up ov 0 (Int32.toInt64 r)) S') (fun E S' => (E = "java/lang/IllegalArgumentException" ∧ P 1 ov S') ∨ (E = "java/lang/IndexOutOfBoundsException" ∧ P 2 ov S'))) : MetW l yL_setMark cL_setMark 7 [(0, 14, 17, 13), (0, 14, 21, 21)] 10 [.ref o, .int a1, .int a2, .int a3, .int a4, .ref ao] P D K E0 B A0 ao S ov := by
  refine gw_start (by decide) rfl (Nat.le_of_ble_eq_true rfl) (fun p e s m args below meth c C htab Em => ?_)
  refine gw_aload C 5 dL_setMark_0 rfl ?_
  refine gw_iconst C 0 dL_setMark_2 (by decide) ?_
  refine gw_aloadn C 0 0 dL_setMark_3 rfl rfl ?_
  refine gw_iloadn C 1 1 dL_setMark_4 rfl rfl ?_
  refine gw_iloadn C 2 2 dL_setMark_5 rfl rfl ?_
  refine gw_iloadn C 3 3 dL_setMark_6 rfl rfl ?_
  refine gw_iload C 4 dL_setMark_7 rfl ?_
  refine gw_call C (y := yX11_setMark) (as := [.int a1, .int a2, .int a3, .int a4]) rfl (by decide) (by decide) (c_X11_setMark l D K E0 B A0 o a1 a2 a3 a4 S _ _ h) hk_X11_setMark rfl vl_L_51 kc_X11_setMark (isC_of hk (by decide)) dL_setMark_9 (Nat.le_of_ble_eq_true rfl) ?_ ?_
  · rintro E S' hx
    rcases hx with ⟨rfl, h⟩ | ⟨rfl, h⟩
    · refine gw_catch C htab [] (0, 14, 17, 13) [(0, 14, 21, 21)] rfl (fun _ h9 => absurd h9 List.not_mem_nil) (by decide +kernel) (by decide) (by decide) v_i508 n_i522 (fun q => ?_)
      refine gw_astore C [(6, .ref q), (0, .ref o), (1, .int a1), (2, .int a2), (3, .int a3), (4, .int a4), (5, .ref ao)] dL_setMark_17 (by decide) rfl ?_
      refine gw_iconst C 1 dL_setMark_19 (by decide) ?_
      exact gw_iret C Em dL_setMark_20 h
    · refine gw_catch C htab [(0, 14, 17, 13)] (0, 14, 21, 21) [] rfl (List.forall_mem_cons.mpr ⟨⟨by decide, "java/lang/IllegalArgumentException", v_i508, by decide +kernel, by decide +kernel⟩, fun _ h9 => absurd h9 List.not_mem_nil⟩) (by decide +kernel) (by decide) (by decide) v_i657 n_i671 (fun q => ?_)
      refine gw_astore C [(6, .ref q), (0, .ref o), (1, .int a1), (2, .int a2), (3, .int a3), (4, .int a4), (5, .ref ao)] dL_setMark_21 (by decide) rfl ?_
      refine gw_iconst C 2 dL_setMark_23 (by decide) ?_
      exact gw_iret C Em dL_setMark_24 h
  · rintro v S' ⟨r, rfl, h⟩ _
    refine gw_i2l C dL_setMark_12 ?_
    refine gw_out C dL_setMark_13 ?_
    refine gw_goto C 25 dL_setMark_14 (by decide) ?_
    refine gw_iconst C 0 dL_setMark_25 (by decide) ?_
    exact gw_iret C Em dL_setMark_26 h
theorem k_transpose (l : Launch) (D : va_G) (K : Nat → ClassId) (E0 : Nat) (B : Nat × Nat) (A0 : Nat → Prop) (ao o : Nat) (a1 : Int32) (a2 : Int32) (S : CS) (ov : Nat → Int64) (P : Int32 → (Nat → Int64) → CS → Prop) (hk : kdC S o = 14) (h : w_X11_transpose B o a1 a2 S (fun r S' => P 0 (va_up ov 0 (Int32.toInt64 r)) S') (fun E S' => (E = "java/lang/IllegalArgumentException" ∧ P 1 ov S') ∨ (E = "java/lang/IllegalStateException" ∧ P 2 ov S'))) : MetW l yL_transpose cL_transpose 5 [(0, 10, 13, 13), (0, 10, 17, 15)] 9 [.ref o, .int a1, .int a2, .ref ao] P D K E0 B A0 ao S ov := by
  refine gw_start (by decide) rfl (Nat.le_of_ble_eq_true rfl) (fun p e s m args below meth c C htab Em => ?_)
  refine gw_aloadn C 3 3 dL_transpose_0 rfl rfl ?_
  refine gw_iconst C 0 dL_transpose_1 (by decide) ?_
  refine gw_aloadn C 0 0 dL_transpose_2 rfl rfl ?_
  refine gw_iloadn C 1 1 dL_transpose_3 rfl rfl ?_
  refine gw_iloadn C 2 2 dL_transpose_4 rfl rfl ?_
  refine gw_call C (y := yX11_transpose) (as := [.int a1, .int a2]) rfl (by decide) (by decide) (c_X11_transpose l D K E0 B A0 o a1 a2 S _ _ h) hk_X11_transpose rfl vl_L_54 kc_X11_transpose (isC_of hk (by decide)) dL_transpose_5 (Nat.le_of_ble_eq_true rfl) ?_ ?_
  · rintro E S' hx
    rcases hx with ⟨rfl, h⟩ | ⟨rfl, h⟩
    · refine gw_catch C htab [] (0, 10, 13, 13) [(0, 10, 17, 15)] rfl (fun _ h9 => absurd h9 List.not_mem_nil) (by decide +kernel) (by decide) (by decide) v_i508 n_i522 (fun q => ?_)
      refine gw_astore C [(4, .ref q), (0, .ref o), (1, .int a1), (2, .int a2), (3, .ref ao)] dL_transpose_13 (by decide) rfl ?_
      refine gw_iconst C 1 dL_transpose_15 (by decide) ?_
      exact gw_iret C Em dL_transpose_16 h
    · refine gw_catch C htab [(0, 10, 13, 13)] (0, 10, 17, 15) [] rfl (List.forall_mem_cons.mpr ⟨⟨by decide, "java/lang/IllegalArgumentException", v_i508, by decide +kernel, by decide +kernel⟩, fun _ h9 => absurd h9 List.not_mem_nil⟩) (by decide +kernel) (by decide) (by decide) v_i509 n_i591 (fun q => ?_)
      refine gw_astore C [(4, .ref q), (0, .ref o), (1, .int a1), (2, .int a2), (3, .ref ao)] dL_transpose_17 (by decide) rfl ?_
      refine gw_iconst C 2 dL_transpose_19 (by decide) ?_
      exact gw_iret C Em dL_transpose_20 h
  · rintro v S' ⟨r, rfl, h⟩ _
    refine gw_i2l C dL_transpose_8 ?_
    refine gw_out C dL_transpose_9 ?_
    refine gw_goto C 21 dL_transpose_10 (by decide) ?_
    refine gw_iconst C 0 dL_transpose_21 (by decide) ?_
    exact gw_iret C Em dL_transpose_22 h
theorem k_events (l : Launch) (D : va_G) (K : Nat → ClassId) (E0 : Nat) (B : Nat × Nat) (A0 : Nat → Prop) (ao o : Nat) (a1 : Int32) (a2 : Int32) (S : CS) (ov : Nat → Int64) (P : Int32 → (Nat → Int64) → CS → Prop) (hk : kdC S o = 14) (h : w_X11_events B o a1 a2 S (fun r S' => P 0 (va_up ov 0 (Int32.toInt64 r)) S') (fun E S' => (E = "java/lang/IllegalArgumentException" ∧ P 1 ov S') ∨ (E = "java/lang/IndexOutOfBoundsException" ∧ P 2 ov S'))) : MetW l yL_events cL_events 5 [(0, 10, 13, 13), (0, 10, 17, 21)] 9 [.ref o, .int a1, .int a2, .ref ao] P D K E0 B A0 ao S ov := by
  refine gw_start (by decide) rfl (Nat.le_of_ble_eq_true rfl) (fun p e s m args below meth c C htab Em => ?_)
  refine gw_aloadn C 3 3 dL_events_0 rfl rfl ?_
  refine gw_iconst C 0 dL_events_1 (by decide) ?_
  refine gw_aloadn C 0 0 dL_events_2 rfl rfl ?_
  refine gw_iloadn C 1 1 dL_events_3 rfl rfl ?_
  refine gw_iloadn C 2 2 dL_events_4 rfl rfl ?_
  refine gw_call C (y := yX11_events) (as := [.int a1, .int a2]) rfl (by decide) (by decide) (c_X11_events l D K E0 B A0 o a1 a2 S _ _ h) hk_X11_events rfl vl_L_57 kc_X11_events (isC_of hk (by decide)) dL_events_5 (Nat.le_of_ble_eq_true rfl) ?_ ?_
  · rintro E S' hx
    rcases hx with ⟨rfl, h⟩ | ⟨rfl, h⟩
    · refine gw_catch C htab [] (0, 10, 13, 13) [(0, 10, 17, 21)] rfl (fun _ h9 => absurd h9 List.not_mem_nil) (by decide +kernel) (by decide) (by decide) v_i508 n_i522 (fun q => ?_)
      refine gw_astore C [(4, .ref q), (0, .ref o), (1, .int a1), (2, .int a2), (3, .ref ao)] dL_events_13 (by decide) rfl ?_
      refine gw_iconst C 1 dL_events_15 (by decide) ?_
      exact gw_iret C Em dL_events_16 h
    · refine gw_catch C htab [(0, 10, 13, 13)] (0, 10, 17, 21) [] rfl (List.forall_mem_cons.mpr ⟨⟨by decide, "java/lang/IllegalArgumentException", v_i508, by decide +kernel, by decide +kernel⟩, fun _ h9 => absurd h9 List.not_mem_nil⟩) (by decide +kernel) (by decide) (by decide) v_i657 n_i671 (fun q => ?_)
      refine gw_astore C [(4, .ref q), (0, .ref o), (1, .int a1), (2, .int a2), (3, .ref ao)] dL_events_17 (by decide) rfl ?_
      refine gw_iconst C 2 dL_events_19 (by decide) ?_
      exact gw_iret C Em dL_events_20 h
  · rintro v S' ⟨r, rfl, h⟩ _
    refine gw_i2l C dL_events_8 ?_
    refine gw_out C dL_events_9 ?_
    refine gw_goto C 21 dL_events_10 (by decide) ?_
    refine gw_iconst C 0 dL_events_21 (by decide) ?_
    exact gw_iret C Em dL_events_22 h
theorem k_left (l : Launch) (D : va_G) (K : Nat → ClassId) (E0 : Nat) (B : Nat × Nat) (A0 : Nat → Prop) (ao o : Nat) (a1 : Int32) (a2 : Int32) (S : CS) (ov : Nat → Int64) (P : Int32 → (Nat → Int64) → CS → Prop) (hk : kdC S o = 14) (h : w_X11_left B o a1 a2 S (fun r S' => P 0 (va_up ov 0 (Int32.toInt64 r)) S') (fun E S' => (E = "java/lang/IllegalArgumentException" ∧ P 1 ov S') ∨ (E = "java/lang/IndexOutOfBoundsException" ∧ P 2 ov S'))) : MetW l yL_left cL_left 5 [(0, 10, 13, 13), (0, 10, 17, 21)] 9 [.ref o, .int a1, .int a2, .ref ao] P D K E0 B A0 ao S ov := by
  refine gw_start (by decide) rfl (Nat.le_of_ble_eq_true rfl) (fun p e s m args below meth c C htab Em => ?_)
  refine gw_aloadn C 3 3 dL_left_0 rfl rfl ?_
  refine gw_iconst C 0 dL_left_1 (by decide) ?_
  refine gw_aloadn C 0 0 dL_left_2 rfl rfl ?_
  refine gw_iloadn C 1 1 dL_left_3 rfl rfl ?_
  refine gw_iloadn C 2 2 dL_left_4 rfl rfl ?_
  refine gw_call C (y := yX11_left) (as := [.int a1, .int a2]) rfl (by decide) (by decide) (c_X11_left l D K E0 B A0 o a1 a2 S _ _ h) hk_X11_left rfl vl_L_60 kc_X11_left (isC_of hk (by decide)) dL_left_5 (Nat.le_of_ble_eq_true rfl) ?_ ?_
  · rintro E S' hx
    rcases hx with ⟨rfl, h⟩ | ⟨rfl, h⟩
    · refine gw_catch C htab [] (0, 10, 13, 13) [(0, 10, 17, 21)] rfl (fun _ h9 => absurd h9 List.not_mem_nil) (by decide +kernel) (by decide) (by decide) v_i508 n_i522 (fun q => ?_)
      refine gw_astore C [(4, .ref q), (0, .ref o), (1, .int a1), (2, .int a2), (3, .ref ao)] dL_left_13 (by decide) rfl ?_
      refine gw_iconst C 1 dL_left_15 (by decide) ?_
      exact gw_iret C Em dL_left_16 h
    · refine gw_catch C htab [(0, 10, 13, 13)] (0, 10, 17, 21) [] rfl (List.forall_mem_cons.mpr ⟨⟨by decide, "java/lang/IllegalArgumentException", v_i508, by decide +kernel, by decide +kernel⟩, fun _ h9 => absurd h9 List.not_mem_nil⟩) (by decide +kernel) (by decide) (by decide) v_i657 n_i671 (fun q => ?_)
      refine gw_astore C [(4, .ref q), (0, .ref o), (1, .int a1), (2, .int a2), (3, .ref ao)] dL_left_17 (by decide) rfl ?_
      refine gw_iconst C 2 dL_left_19 (by decide) ?_
      exact gw_iret C Em dL_left_20 h
  · rintro v S' ⟨r, rfl, h⟩ _
    refine gw_i2l C dL_left_8 ?_
    refine gw_out C dL_left_9 ?_
    refine gw_goto C 21 dL_left_10 (by decide) ?_
    refine gw_iconst C 0 dL_left_21 (by decide) ?_
    exact gw_iret C Em dL_left_22 h
theorem k_isRight (l : Launch) (D : va_G) (K : Nat → ClassId) (E0 : Nat) (B : Nat × Nat) (A0 : Nat → Prop) (ao o : Nat) (a1 : Int32) (a2 : Int32) (S : CS) (ov : Nat → Int64) (P : Int32 → (Nat → Int64) → CS → Prop) (hk : kdC S o = 14) (h : w_X11_isRight B o a1 a2 S (fun r S' => (¬ r = 0 → P 0 (va_up ov 0 1) S') ∧ (r = 0 → P 0 (va_up ov 0 0) S')) (fun E S' => (E = "java/lang/IllegalArgumentException" ∧ P 1 ov S') ∨ (E = "java/lang/IndexOutOfBoundsException" ∧ P 2 ov S'))) : MetW l yL_isRight cL_isRight 5 [(0, 17, 20, 13), (0, 17, 24, 21)] 9 [.ref o, .int a1, .int a2, .ref ao] P D K E0 B A0 ao S ov := by
  refine gw_start (by decide) rfl (Nat.le_of_ble_eq_true rfl) (fun p e s m args below meth c C htab Em => ?_)
  refine gw_aloadn C 3 3 dL_isRight_0 rfl rfl ?_
  refine gw_iconst C 0 dL_isRight_1 (by decide) ?_
  refine gw_aloadn C 0 0 dL_isRight_2 rfl rfl ?_
  refine gw_iloadn C 1 1 dL_isRight_3 rfl rfl ?_
  refine gw_iloadn C 2 2 dL_isRight_4 rfl rfl ?_
  refine gw_call C (y := yX11_isRight) (as := [.int a1, .int a2]) rfl (by decide) (by decide) (c_X11_isRight l D K E0 B A0 o a1 a2 S _ _ h) hk_X11_isRight rfl vl_L_63 kc_X11_isRight (isC_of hk (by decide)) dL_isRight_5 (Nat.le_of_ble_eq_true rfl) ?_ ?_
  · rintro E S' hx
    rcases hx with ⟨rfl, h⟩ | ⟨rfl, h⟩
    · refine gw_catch C htab [] (0, 17, 20, 13) [(0, 17, 24, 21)] rfl (fun _ h9 => absurd h9 List.not_mem_nil) (by decide +kernel) (by decide) (by decide) v_i508 n_i522 (fun q => ?_)
      refine gw_astore C [(4, .ref q), (0, .ref o), (1, .int a1), (2, .int a2), (3, .ref ao)] dL_isRight_20 (by decide) rfl ?_
      refine gw_iconst C 1 dL_isRight_22 (by decide) ?_
      exact gw_iret C Em dL_isRight_23 h
    · refine gw_catch C htab [(0, 17, 20, 13)] (0, 17, 24, 21) [] rfl (List.forall_mem_cons.mpr ⟨⟨by decide, "java/lang/IllegalArgumentException", v_i508, by decide +kernel, by decide +kernel⟩, fun _ h9 => absurd h9 List.not_mem_nil⟩) (by decide +kernel) (by decide) (by decide) v_i657 n_i671 (fun q => ?_)
      refine gw_astore C [(4, .ref q), (0, .ref o), (1, .int a1), (2, .int a2), (3, .ref ao)] dL_isRight_24 (by decide) rfl ?_
      refine gw_iconst C 2 dL_isRight_26 (by decide) ?_
      exact gw_iret C Em dL_isRight_27 h
  · rintro v S' ⟨r, rfl, h⟩ _
    refine gw_if_eq C 15 dL_isRight_8 (by decide) (fun c1 => ?_) (fun c1 => ?_)
    · have h := h.2 c1
      refine gw_lconst C 0 dL_isRight_15 (by decide) ?_
      refine gw_out C dL_isRight_16 ?_
      refine gw_goto C 28 dL_isRight_17 (by decide) ?_
      refine gw_iconst C 0 dL_isRight_28 (by decide) ?_
      exact gw_iret C Em dL_isRight_29 h
    · have h := h.1 c1
      refine gw_lconst C 1 dL_isRight_11 (by decide) ?_
      refine gw_goto C 16 dL_isRight_12 (by decide) ?_
      refine gw_out C dL_isRight_16 ?_
      refine gw_goto C 28 dL_isRight_17 (by decide) ?_
      refine gw_iconst C 0 dL_isRight_28 (by decide) ?_
      exact gw_iret C Em dL_isRight_29 h
theorem k_written (l : Launch) (D : va_G) (K : Nat → ClassId) (E0 : Nat) (B : Nat × Nat) (A0 : Nat → Prop) (ao o : Nat) (a1 : Int32) (a2 : Int32) (a3 : Int32) (S : CS) (ov : Nat → Int64) (P : Int32 → (Nat → Int64) → CS → Prop) (hk : kdC S o = 14) (h : w_X11_written B o a1 a2 a3 S (fun r S' => P 0 (va_up ov 0 (Int32.toInt64 r)) S') (fun E S' => (E = "java/lang/IllegalArgumentException" ∧ P 1 ov S') ∨ (E = "java/lang/IndexOutOfBoundsException" ∧ P 2 ov S'))) : MetW l yL_written cL_written 6 [(0, 12, 15, 13), (0, 12, 19, 21)] 10 [.ref o, .int a1, .int a2, .int a3, .ref ao] P D K E0 B A0 ao S ov := by
  refine gw_start (by decide) rfl (Nat.le_of_ble_eq_true rfl) (fun p e s m args below meth c C htab Em => ?_)
  refine gw_aload C 4 dL_written_0 rfl ?_
  refine gw_iconst C 0 dL_written_2 (by decide) ?_
  refine gw_aloadn C 0 0 dL_written_3 rfl rfl ?_
  refine gw_iloadn C 1 1 dL_written_4 rfl rfl ?_
  refine gw_iloadn C 2 2 dL_written_5 rfl rfl ?_
  refine gw_iloadn C 3 3 dL_written_6 rfl rfl ?_
  refine gw_call C (y := yX11_written) (as := [.int a1, .int a2, .int a3]) rfl (by decide) (by decide) (c_X11_written l D K E0 B A0 o a1 a2 a3 S _ _ h) hk_X11_written rfl vl_L_67 kc_X11_written (isC_of hk (by decide)) dL_written_7 (Nat.le_of_ble_eq_true rfl) ?_ ?_
  · rintro E S' hx
    rcases hx with ⟨rfl, h⟩ | ⟨rfl, h⟩
    · refine gw_catch C htab [] (0, 12, 15, 13) [(0, 12, 19, 21)] rfl (fun _ h9 => absurd h9 List.not_mem_nil) (by decide +kernel) (by decide) (by decide) v_i508 n_i522 (fun q => ?_)
      refine gw_astore C [(5, .ref q), (0, .ref o), (1, .int a1), (2, .int a2), (3, .int a3), (4, .ref ao)] dL_written_15 (by decide) rfl ?_
      refine gw_iconst C 1 dL_written_17 (by decide) ?_
      exact gw_iret C Em dL_written_18 h
    · refine gw_catch C htab [(0, 12, 15, 13)] (0, 12, 19, 21) [] rfl (List.forall_mem_cons.mpr ⟨⟨by decide, "java/lang/IllegalArgumentException", v_i508, by decide +kernel, by decide +kernel⟩, fun _ h9 => absurd h9 List.not_mem_nil⟩) (by decide +kernel) (by decide) (by decide) v_i657 n_i671 (fun q => ?_)
      refine gw_astore C [(5, .ref q), (0, .ref o), (1, .int a1), (2, .int a2), (3, .int a3), (4, .ref ao)] dL_written_19 (by decide) rfl ?_
      refine gw_iconst C 2 dL_written_21 (by decide) ?_
      exact gw_iret C Em dL_written_22 h
  · rintro v S' ⟨r, rfl, h⟩ _
    refine gw_i2l C dL_written_10 ?_
    refine gw_out C dL_written_11 ?_
    refine gw_goto C 23 dL_written_12 (by decide) ?_
    refine gw_iconst C 0 dL_written_23 (by decide) ?_
    exact gw_iret C Em dL_written_24 h
theorem k_addPhrase (l : Launch) (D : va_G) (K : Nat → ClassId) (E0 : Nat) (B : Nat × Nat) (A0 : Nat → Prop) (ao o : Nat) (a1 : Int32) (a2 : Int32) (a3 : Int32) (a4 : Int32) (a5 : Int32) (S : CS) (ov : Nat → Int64) (P : Int32 → (Nat → Int64) → CS → Prop) (hk : kdC S o = 14) (h : w_X11_addPhrase B o a1 a2 a3 a4 a5 S (fun r S' => P 0 (va_up ov 0 (Int32.toInt64 r)) S') (fun E S' => (E = "java/lang/IllegalArgumentException" ∧ P 1 ov S') ∨ (E = "java/lang/IndexOutOfBoundsException" ∧ P 2 ov S') ∨ (E = "java/lang/IllegalStateException" ∧ P 3 ov S'))) : MetW l yL_addPhrase cL_addPhrase 8 [(0, 16, 19, 13), (0, 16, 23, 21), (0, 16, 27, 15)] 10 [.ref o, .int a1, .int a2, .int a3, .int a4, .int a5, .ref ao] P D K E0 B A0 ao S ov := by
  refine gw_start (by decide) rfl (Nat.le_of_ble_eq_true rfl) (fun p e s m args below meth c C htab Em => ?_)
  refine gw_aload C 6 dL_addPhrase_0 rfl ?_
  refine gw_iconst C 0 dL_addPhrase_2 (by decide) ?_
  refine gw_aloadn C 0 0 dL_addPhrase_3 rfl rfl ?_
  refine gw_iloadn C 1 1 dL_addPhrase_4 rfl rfl ?_
  refine gw_iloadn C 2 2 dL_addPhrase_5 rfl rfl ?_
  refine gw_iloadn C 3 3 dL_addPhrase_6 rfl rfl ?_
  refine gw_iload C 4 dL_addPhrase_7 rfl ?_
  refine gw_iload C 5 dL_addPhrase_9 rfl ?_
  refine gw_call C (y := yX11_addPhrase) (as := [.int a1, .int a2, .int a3, .int a4, .int a5]) rfl (by decide) (by decide) (c_X11_addPhrase l D K E0 B A0 o a1 a2 a3 a4 a5 S _ _ h) hk_X11_addPhrase rfl vl_L_70 kc_X11_addPhrase (isC_of hk (by decide)) dL_addPhrase_11 (Nat.le_of_ble_eq_true rfl) ?_ ?_
  · rintro E S' hx
    rcases hx with ⟨rfl, h⟩ | ⟨rfl, h⟩ | ⟨rfl, h⟩
    · refine gw_catch C htab [] (0, 16, 19, 13) [(0, 16, 23, 21), (0, 16, 27, 15)] rfl (fun _ h9 => absurd h9 List.not_mem_nil) (by decide +kernel) (by decide) (by decide) v_i508 n_i522 (fun q => ?_)
      refine gw_astore C [(7, .ref q), (0, .ref o), (1, .int a1), (2, .int a2), (3, .int a3), (4, .int a4), (5, .int a5), (6, .ref ao)] dL_addPhrase_19 (by decide) rfl ?_
      refine gw_iconst C 1 dL_addPhrase_21 (by decide) ?_
      exact gw_iret C Em dL_addPhrase_22 h
    · refine gw_catch C htab [(0, 16, 19, 13)] (0, 16, 23, 21) [(0, 16, 27, 15)] rfl (List.forall_mem_cons.mpr ⟨⟨by decide, "java/lang/IllegalArgumentException", v_i508, by decide +kernel, by decide +kernel⟩, fun _ h9 => absurd h9 List.not_mem_nil⟩) (by decide +kernel) (by decide) (by decide) v_i657 n_i671 (fun q => ?_)
      refine gw_astore C [(7, .ref q), (0, .ref o), (1, .int a1), (2, .int a2), (3, .int a3), (4, .int a4), (5, .int a5), (6, .ref ao)] dL_addPhrase_23 (by decide) rfl ?_
      refine gw_iconst C 2 dL_addPhrase_25 (by decide) ?_
      exact gw_iret C Em dL_addPhrase_26 h
    · refine gw_catch C htab [(0, 16, 19, 13), (0, 16, 23, 21)] (0, 16, 27, 15) [] rfl (List.forall_mem_cons.mpr ⟨⟨by decide, "java/lang/IllegalArgumentException", v_i508, by decide +kernel, by decide +kernel⟩, List.forall_mem_cons.mpr ⟨⟨by decide, "java/lang/IndexOutOfBoundsException", v_i657, by decide +kernel, by decide +kernel⟩, fun _ h9 => absurd h9 List.not_mem_nil⟩⟩) (by decide +kernel) (by decide) (by decide) v_i509 n_i591 (fun q => ?_)
      refine gw_astore C [(7, .ref q), (0, .ref o), (1, .int a1), (2, .int a2), (3, .int a3), (4, .int a4), (5, .int a5), (6, .ref ao)] dL_addPhrase_27 (by decide) rfl ?_
      refine gw_iconst C 3 dL_addPhrase_29 (by decide) ?_
      exact gw_iret C Em dL_addPhrase_30 h
  · rintro v S' ⟨r, rfl, h⟩ _
    refine gw_i2l C dL_addPhrase_14 ?_
    refine gw_out C dL_addPhrase_15 ?_
    refine gw_goto C 31 dL_addPhrase_16 (by decide) ?_
    refine gw_iconst C 0 dL_addPhrase_31 (by decide) ?_
    exact gw_iret C Em dL_addPhrase_32 h
theorem k_dropPhrase (l : Launch) (D : va_G) (K : Nat → ClassId) (E0 : Nat) (B : Nat × Nat) (A0 : Nat → Prop) (ao o : Nat) (a1 : Int32) (S : CS) (ov : Nat → Int64) (P : Int32 → (Nat → Int64) → CS → Prop) (hk : kdC S o = 14) (h : w_X11_dropPhrase B o a1 S (fun r S' => (¬ r = 0 → P 0 (va_up ov 0 1) S') ∧ (r = 0 → P 0 (va_up ov 0 0) S')) (fun E S' => (E = "java/lang/IndexOutOfBoundsException" ∧ P 1 ov S'))) : MetW l yL_dropPhrase cL_dropPhrase 4 [(0, 16, 19, 21)] 8 [.ref o, .int a1, .ref ao] P D K E0 B A0 ao S ov := by
  refine gw_start (by decide) rfl (Nat.le_of_ble_eq_true rfl) (fun p e s m args below meth c C htab Em => ?_)
  refine gw_aloadn C 2 2 dL_dropPhrase_0 rfl rfl ?_
  refine gw_iconst C 0 dL_dropPhrase_1 (by decide) ?_
  refine gw_aloadn C 0 0 dL_dropPhrase_2 rfl rfl ?_
  refine gw_iloadn C 1 1 dL_dropPhrase_3 rfl rfl ?_
  refine gw_call C (y := yX11_dropPhrase) (as := [.int a1]) rfl (by decide) (by decide) (c_X11_dropPhrase l D K E0 B A0 o a1 S _ _ h) hk_X11_dropPhrase rfl vl_L_74 kc_X11_dropPhrase (isC_of hk (by decide)) dL_dropPhrase_4 (Nat.le_of_ble_eq_true rfl) ?_ ?_
  · rintro E S' hx
    rcases hx with ⟨rfl, h⟩
    · refine gw_catch C htab [] (0, 16, 19, 21) [] rfl (fun _ h9 => absurd h9 List.not_mem_nil) (by decide +kernel) (by decide) (by decide) v_i657 n_i671 (fun q => ?_)
      refine gw_astoren C 3 [(3, .ref q), (0, .ref o), (1, .int a1), (2, .ref ao)] dL_dropPhrase_19 rfl (by decide) rfl ?_
      refine gw_iconst C 1 dL_dropPhrase_20 (by decide) ?_
      exact gw_iret C Em dL_dropPhrase_21 h
  · rintro v S' ⟨r, rfl, h⟩ _
    refine gw_if_eq C 14 dL_dropPhrase_7 (by decide) (fun c1 => ?_) (fun c1 => ?_)
    · have h := h.2 c1
      refine gw_lconst C 0 dL_dropPhrase_14 (by decide) ?_
      refine gw_out C dL_dropPhrase_15 ?_
      refine gw_goto C 22 dL_dropPhrase_16 (by decide) ?_
      refine gw_iconst C 0 dL_dropPhrase_22 (by decide) ?_
      exact gw_iret C Em dL_dropPhrase_23 h
    · have h := h.1 c1
      refine gw_lconst C 1 dL_dropPhrase_10 (by decide) ?_
      refine gw_goto C 15 dL_dropPhrase_11 (by decide) ?_
      refine gw_out C dL_dropPhrase_15 ?_
      refine gw_goto C 22 dL_dropPhrase_16 (by decide) ?_
      refine gw_iconst C 0 dL_dropPhrase_22 (by decide) ?_
      exact gw_iret C Em dL_dropPhrase_23 h
theorem k_allowTurn (l : Launch) (D : va_G) (K : Nat → ClassId) (E0 : Nat) (B : Nat × Nat) (A0 : Nat → Prop) (ao o : Nat) (a1 : Int32) (a2 : Int32) (a3 : Int32) (S : CS) (ov : Nat → Int64) (P : Int32 → (Nat → Int64) → CS → Prop) (hk : kdC S o = 14) (h : w_X11_allowTurn B o a1 a2 a3 S (fun r S' => (¬ r = 0 → P 0 (va_up ov 0 1) S') ∧ (r = 0 → P 0 (va_up ov 0 0) S')) (fun E S' => (E = "java/lang/IllegalArgumentException" ∧ P 1 ov S') ∨ (E = "java/lang/IndexOutOfBoundsException" ∧ P 2 ov S'))) : MetW l yL_allowTurn cL_allowTurn 6 [(0, 19, 22, 13), (0, 19, 26, 21)] 9 [.ref o, .int a1, .int a2, .int a3, .ref ao] P D K E0 B A0 ao S ov := by
  refine gw_start (by decide) rfl (Nat.le_of_ble_eq_true rfl) (fun p e s m args below meth c C htab Em => ?_)
  refine gw_aload C 4 dL_allowTurn_0 rfl ?_
  refine gw_iconst C 0 dL_allowTurn_2 (by decide) ?_
  refine gw_aloadn C 0 0 dL_allowTurn_3 rfl rfl ?_
  refine gw_iloadn C 1 1 dL_allowTurn_4 rfl rfl ?_
  refine gw_iloadn C 2 2 dL_allowTurn_5 rfl rfl ?_
  refine gw_iloadn C 3 3 dL_allowTurn_6 rfl rfl ?_
  refine gw_call C (y := yX11_allowTurn) (as := [.int a1, .int a2, .int a3]) rfl (by decide) (by decide) (c_X11_allowTurn l D K E0 B A0 o a1 a2 a3 S _ _ h) hk_X11_allowTurn rfl vl_L_78 kc_X11_allowTurn (isC_of hk (by decide)) dL_allowTurn_7 (Nat.le_of_ble_eq_true rfl) ?_ ?_
  · rintro E S' hx
    rcases hx with ⟨rfl, h⟩ | ⟨rfl, h⟩
    · refine gw_catch C htab [] (0, 19, 22, 13) [(0, 19, 26, 21)] rfl (fun _ h9 => absurd h9 List.not_mem_nil) (by decide +kernel) (by decide) (by decide) v_i508 n_i522 (fun q => ?_)
      refine gw_astore C [(5, .ref q), (0, .ref o), (1, .int a1), (2, .int a2), (3, .int a3), (4, .ref ao)] dL_allowTurn_22 (by decide) rfl ?_
      refine gw_iconst C 1 dL_allowTurn_24 (by decide) ?_
      exact gw_iret C Em dL_allowTurn_25 h
    · refine gw_catch C htab [(0, 19, 22, 13)] (0, 19, 26, 21) [] rfl (List.forall_mem_cons.mpr ⟨⟨by decide, "java/lang/IllegalArgumentException", v_i508, by decide +kernel, by decide +kernel⟩, fun _ h9 => absurd h9 List.not_mem_nil⟩) (by decide +kernel) (by decide) (by decide) v_i657 n_i671 (fun q => ?_)
      refine gw_astore C [(5, .ref q), (0, .ref o), (1, .int a1), (2, .int a2), (3, .int a3), (4, .ref ao)] dL_allowTurn_26 (by decide) rfl ?_
      refine gw_iconst C 2 dL_allowTurn_28 (by decide) ?_
      exact gw_iret C Em dL_allowTurn_29 h
  · rintro v S' ⟨r, rfl, h⟩ _
    refine gw_if_eq C 17 dL_allowTurn_10 (by decide) (fun c1 => ?_) (fun c1 => ?_)
    · have h := h.2 c1
      refine gw_lconst C 0 dL_allowTurn_17 (by decide) ?_
      refine gw_out C dL_allowTurn_18 ?_
      refine gw_goto C 30 dL_allowTurn_19 (by decide) ?_
      refine gw_iconst C 0 dL_allowTurn_30 (by decide) ?_
      exact gw_iret C Em dL_allowTurn_31 h
    · have h := h.1 c1
      refine gw_lconst C 1 dL_allowTurn_13 (by decide) ?_
      refine gw_goto C 18 dL_allowTurn_14 (by decide) ?_
      refine gw_out C dL_allowTurn_18 ?_
      refine gw_goto C 30 dL_allowTurn_19 (by decide) ?_
      refine gw_iconst C 0 dL_allowTurn_30 (by decide) ?_
      exact gw_iret C Em dL_allowTurn_31 h
theorem k_addRepeat (l : Launch) (D : va_G) (K : Nat → ClassId) (E0 : Nat) (B : Nat × Nat) (A0 : Nat → Prop) (ao o : Nat) (a1 : Int32) (a2 : Int32) (a3 : Int32) (S : CS) (ov : Nat → Int64) (P : Int32 → (Nat → Int64) → CS → Prop) (hk : kdC S o = 14) (h : w_X11_addRepeat B o a1 a2 a3 S (fun r S' => P 0 (va_up ov 0 (Int32.toInt64 r)) S') (fun E S' => (E = "java/lang/IndexOutOfBoundsException" ∧ P 1 ov S') ∨ (E = "java/lang/IllegalArgumentException" ∧ P 2 ov S') ∨ (E = "java/lang/IllegalStateException" ∧ P 3 ov S'))) : MetW l yL_addRepeat cL_addRepeat 6 [(0, 12, 15, 21), (0, 12, 19, 13), (0, 12, 23, 15)] 9 [.ref o, .int a1, .int a2, .int a3, .ref ao] P D K E0 B A0 ao S ov := by
  refine gw_start (by decide) rfl (Nat.le_of_ble_eq_true rfl) (fun p e s m args below meth c C htab Em => ?_)
  refine gw_aload C 4 dL_addRepeat_0 rfl ?_
  refine gw_iconst C 0 dL_addRepeat_2 (by decide) ?_
  refine gw_aloadn C 0 0 dL_addRepeat_3 rfl rfl ?_
  refine gw_iloadn C 1 1 dL_addRepeat_4 rfl rfl ?_
  refine gw_iloadn C 2 2 dL_addRepeat_5 rfl rfl ?_
  refine gw_iloadn C 3 3 dL_addRepeat_6 rfl rfl ?_
  refine gw_call C (y := yX11_addRepeat) (as := [.int a1, .int a2, .int a3]) rfl (by decide) (by decide) (c_X11_addRepeat l D K E0 B A0 o a1 a2 a3 S _ _ h) hk_X11_addRepeat rfl vl_L_82 kc_X11_addRepeat (isC_of hk (by decide)) dL_addRepeat_7 (Nat.le_of_ble_eq_true rfl) ?_ ?_
  · rintro E S' hx
    rcases hx with ⟨rfl, h⟩ | ⟨rfl, h⟩ | ⟨rfl, h⟩
    · refine gw_catch C htab [] (0, 12, 15, 21) [(0, 12, 19, 13), (0, 12, 23, 15)] rfl (fun _ h9 => absurd h9 List.not_mem_nil) (by decide +kernel) (by decide) (by decide) v_i657 n_i671 (fun q => ?_)
      refine gw_astore C [(5, .ref q), (0, .ref o), (1, .int a1), (2, .int a2), (3, .int a3), (4, .ref ao)] dL_addRepeat_15 (by decide) rfl ?_
      refine gw_iconst C 1 dL_addRepeat_17 (by decide) ?_
      exact gw_iret C Em dL_addRepeat_18 h
    · refine gw_catch C htab [(0, 12, 15, 21)] (0, 12, 19, 13) [(0, 12, 23, 15)] rfl (List.forall_mem_cons.mpr ⟨⟨by decide, "java/lang/IndexOutOfBoundsException", v_i657, by decide +kernel, by decide +kernel⟩, fun _ h9 => absurd h9 List.not_mem_nil⟩) (by decide +kernel) (by decide) (by decide) v_i508 n_i522 (fun q => ?_)
      refine gw_astore C [(5, .ref q), (0, .ref o), (1, .int a1), (2, .int a2), (3, .int a3), (4, .ref ao)] dL_addRepeat_19 (by decide) rfl ?_
      refine gw_iconst C 2 dL_addRepeat_21 (by decide) ?_
      exact gw_iret C Em dL_addRepeat_22 h
    · refine gw_catch C htab [(0, 12, 15, 21), (0, 12, 19, 13)] (0, 12, 23, 15) [] rfl (List.forall_mem_cons.mpr ⟨⟨by decide, "java/lang/IndexOutOfBoundsException", v_i657, by decide +kernel, by decide +kernel⟩, List.forall_mem_cons.mpr ⟨⟨by decide, "java/lang/IllegalArgumentException", v_i508, by decide +kernel, by decide +kernel⟩, fun _ h9 => absurd h9 List.not_mem_nil⟩⟩) (by decide +kernel) (by decide) (by decide) v_i509 n_i591 (fun q => ?_)
      refine gw_astore C [(5, .ref q), (0, .ref o), (1, .int a1), (2, .int a2), (3, .int a3), (4, .ref ao)] dL_addRepeat_23 (by decide) rfl ?_
      refine gw_iconst C 3 dL_addRepeat_25 (by decide) ?_
      exact gw_iret C Em dL_addRepeat_26 h
  · rintro v S' ⟨r, rfl, h⟩ _
    refine gw_i2l C dL_addRepeat_10 ?_
    refine gw_out C dL_addRepeat_11 ?_
    refine gw_goto C 27 dL_addRepeat_12 (by decide) ?_
    refine gw_iconst C 0 dL_addRepeat_27 (by decide) ?_
    exact gw_iret C Em dL_addRepeat_28 h
theorem k_dropRepeat (l : Launch) (D : va_G) (K : Nat → ClassId) (E0 : Nat) (B : Nat × Nat) (A0 : Nat → Prop) (ao o : Nat) (a1 : Int32) (S : CS) (ov : Nat → Int64) (P : Int32 → (Nat → Int64) → CS → Prop) (hk : kdC S o = 14) (h : w_X11_dropRepeat B o a1 S (fun r S' => P 0 (va_up ov 0 (Int32.toInt64 r)) S') (fun E S' => (E = "java/lang/IndexOutOfBoundsException" ∧ P 1 ov S') ∨ (E = "java/lang/IllegalStateException" ∧ P 2 ov S'))) : MetW l yL_dropRepeat cL_dropRepeat 4 [(0, 9, 12, 21), (0, 9, 15, 15)] 9 [.ref o, .int a1, .ref ao] P D K E0 B A0 ao S ov := by
  refine gw_start (by decide) rfl (Nat.le_of_ble_eq_true rfl) (fun p e s m args below meth c C htab Em => ?_)
  refine gw_aloadn C 2 2 dL_dropRepeat_0 rfl rfl ?_
  refine gw_iconst C 0 dL_dropRepeat_1 (by decide) ?_
  refine gw_aloadn C 0 0 dL_dropRepeat_2 rfl rfl ?_
  refine gw_iloadn C 1 1 dL_dropRepeat_3 rfl rfl ?_
  refine gw_call C (y := yX11_dropRepeat) (as := [.int a1]) rfl (by decide) (by decide) (c_X11_dropRepeat l D K E0 B A0 o a1 S _ _ h) hk_X11_dropRepeat rfl vl_L_85 kc_X11_dropRepeat (isC_of hk (by decide)) dL_dropRepeat_4 (Nat.le_of_ble_eq_true rfl) ?_ ?_
  · rintro E S' hx
    rcases hx with ⟨rfl, h⟩ | ⟨rfl, h⟩
    · refine gw_catch C htab [] (0, 9, 12, 21) [(0, 9, 15, 15)] rfl (fun _ h9 => absurd h9 List.not_mem_nil) (by decide +kernel) (by decide) (by decide) v_i657 n_i671 (fun q => ?_)
      refine gw_astoren C 3 [(3, .ref q), (0, .ref o), (1, .int a1), (2, .ref ao)] dL_dropRepeat_12 rfl (by decide) rfl ?_
      refine gw_iconst C 1 dL_dropRepeat_13 (by decide) ?_
      exact gw_iret C Em dL_dropRepeat_14 h
    · refine gw_catch C htab [(0, 9, 12, 21)] (0, 9, 15, 15) [] rfl (List.forall_mem_cons.mpr ⟨⟨by decide, "java/lang/IndexOutOfBoundsException", v_i657, by decide +kernel, by decide +kernel⟩, fun _ h9 => absurd h9 List.not_mem_nil⟩) (by decide +kernel) (by decide) (by decide) v_i509 n_i591 (fun q => ?_)
      refine gw_astoren C 3 [(3, .ref q), (0, .ref o), (1, .int a1), (2, .ref ao)] dL_dropRepeat_15 rfl (by decide) rfl ?_
      refine gw_iconst C 2 dL_dropRepeat_16 (by decide) ?_
      exact gw_iret C Em dL_dropRepeat_17 h
  · rintro v S' ⟨r, rfl, h⟩ _
    refine gw_i2l C dL_dropRepeat_7 ?_
    refine gw_out C dL_dropRepeat_8 ?_
    refine gw_goto C 18 dL_dropRepeat_9 (by decide) ?_
    refine gw_iconst C 0 dL_dropRepeat_18 (by decide) ?_
    exact gw_iret C Em dL_dropRepeat_19 h
theorem k_barAt (l : Launch) (D : va_G) (K : Nat → ClassId) (E0 : Nat) (B : Nat × Nat) (A0 : Nat → Prop) (ao o : Nat) (a1 : Int32) (S : CS) (ov : Nat → Int64) (P : Int32 → (Nat → Int64) → CS → Prop) (hk : kdC S o = 14) (h : w_X11_barAt B o a1 S (fun r S' => P 0 (va_up ov 0 (Int32.toInt64 r)) S') (fun E S' => (E = "java/lang/IndexOutOfBoundsException" ∧ P 1 ov S'))) : MetW l yL_barAt cL_barAt 4 [(0, 9, 12, 21)] 13 [.ref o, .int a1, .ref ao] P D K E0 B A0 ao S ov := by
  refine gw_start (by decide) rfl (Nat.le_of_ble_eq_true rfl) (fun p e s m args below meth c C htab Em => ?_)
  refine gw_aloadn C 2 2 dL_barAt_0 rfl rfl ?_
  refine gw_iconst C 0 dL_barAt_1 (by decide) ?_
  refine gw_aloadn C 0 0 dL_barAt_2 rfl rfl ?_
  refine gw_iloadn C 1 1 dL_barAt_3 rfl rfl ?_
  refine gw_call C (y := yX11_barAt) (as := [.int a1]) rfl (by decide) (by decide) (c_X11_barAt l D K E0 B A0 o a1 S _ _ h) hk_X11_barAt rfl vl_L_88 kc_X11_barAt (isC_of hk (by decide)) dL_barAt_4 (Nat.le_of_ble_eq_true rfl) ?_ ?_
  · rintro E S' hx
    rcases hx with ⟨rfl, h⟩
    · refine gw_catch C htab [] (0, 9, 12, 21) [] rfl (fun _ h9 => absurd h9 List.not_mem_nil) (by decide +kernel) (by decide) (by decide) v_i657 n_i671 (fun q => ?_)
      refine gw_astoren C 3 [(3, .ref q), (0, .ref o), (1, .int a1), (2, .ref ao)] dL_barAt_12 rfl (by decide) rfl ?_
      refine gw_iconst C 1 dL_barAt_13 (by decide) ?_
      exact gw_iret C Em dL_barAt_14 h
  · rintro v S' ⟨r, rfl, h⟩ _
    refine gw_i2l C dL_barAt_7 ?_
    refine gw_out C dL_barAt_8 ?_
    refine gw_goto C 15 dL_barAt_9 (by decide) ?_
    refine gw_iconst C 0 dL_barAt_15 (by decide) ?_
    exact gw_iret C Em dL_barAt_16 h
theorem k_startOf (l : Launch) (D : va_G) (K : Nat → ClassId) (E0 : Nat) (B : Nat × Nat) (A0 : Nat → Prop) (ao o : Nat) (a1 : Int32) (S : CS) (ov : Nat → Int64) (P : Int32 → (Nat → Int64) → CS → Prop) (hk : kdC S o = 14) (h : w_X11_startOf B o a1 S (fun r S' => P 0 (va_up ov 0 (Int32.toInt64 r)) S') (fun E S' => (E = "java/lang/IndexOutOfBoundsException" ∧ P 1 ov S'))) : MetW l yL_startOf cL_startOf 4 [(0, 9, 12, 21)] 13 [.ref o, .int a1, .ref ao] P D K E0 B A0 ao S ov := by
  refine gw_start (by decide) rfl (Nat.le_of_ble_eq_true rfl) (fun p e s m args below meth c C htab Em => ?_)
  refine gw_aloadn C 2 2 dL_startOf_0 rfl rfl ?_
  refine gw_iconst C 0 dL_startOf_1 (by decide) ?_
  refine gw_aloadn C 0 0 dL_startOf_2 rfl rfl ?_
  refine gw_iloadn C 1 1 dL_startOf_3 rfl rfl ?_
  refine gw_call C (y := yX11_startOf) (as := [.int a1]) rfl (by decide) (by decide) (c_X11_startOf l D K E0 B A0 o a1 S _ _ h) hk_X11_startOf rfl vl_L_91 kc_X11_startOf (isC_of hk (by decide)) dL_startOf_4 (Nat.le_of_ble_eq_true rfl) ?_ ?_
  · rintro E S' hx
    rcases hx with ⟨rfl, h⟩
    · refine gw_catch C htab [] (0, 9, 12, 21) [] rfl (fun _ h9 => absurd h9 List.not_mem_nil) (by decide +kernel) (by decide) (by decide) v_i657 n_i671 (fun q => ?_)
      refine gw_astoren C 3 [(3, .ref q), (0, .ref o), (1, .int a1), (2, .ref ao)] dL_startOf_12 rfl (by decide) rfl ?_
      refine gw_iconst C 1 dL_startOf_13 (by decide) ?_
      exact gw_iret C Em dL_startOf_14 h
  · rintro v S' ⟨r, rfl, h⟩ _
    refine gw_i2l C dL_startOf_7 ?_
    refine gw_out C dL_startOf_8 ?_
    refine gw_goto C 15 dL_startOf_9 (by decide) ?_
    refine gw_iconst C 0 dL_startOf_15 (by decide) ?_
    exact gw_iret C Em dL_startOf_16 h
theorem k_timeByEvents (l : Launch) (D : va_G) (K : Nat → ClassId) (E0 : Nat) (B : Nat × Nat) (A0 : Nat → Prop) (ao o : Nat) (a1 : Int32) (S : CS) (ov : Nat → Int64) (P : Int32 → (Nat → Int64) → CS → Prop) (hk : kdC S o = 14) (h : w_X11_timeByEvents B o a1 S (fun r S' => P 0 (va_up ov 0 (Int32.toInt64 r)) S') (fun E S' => (E = "java/lang/IllegalArgumentException" ∧ P 1 ov S'))) : MetW l yL_timeByEvents cL_timeByEvents 4 [(0, 9, 12, 13)] 13 [.ref o, .int a1, .ref ao] P D K E0 B A0 ao S ov := by
  refine gw_start (by decide) rfl (Nat.le_of_ble_eq_true rfl) (fun p e s m args below meth c C htab Em => ?_)
  refine gw_aloadn C 2 2 dL_timeByEvents_0 rfl rfl ?_
  refine gw_iconst C 0 dL_timeByEvents_1 (by decide) ?_
  refine gw_aloadn C 0 0 dL_timeByEvents_2 rfl rfl ?_
  refine gw_iloadn C 1 1 dL_timeByEvents_3 rfl rfl ?_
  refine gw_call C (y := yX11_timeByEvents) (as := [.int a1]) rfl (by decide) (by decide) (c_X11_timeByEvents l D K E0 B A0 o a1 S _ _ h) hk_X11_timeByEvents rfl vl_L_94 kc_X11_timeByEvents (isC_of hk (by decide)) dL_timeByEvents_4 (Nat.le_of_ble_eq_true rfl) ?_ ?_
  · rintro E S' hx
    rcases hx with ⟨rfl, h⟩
    · refine gw_catch C htab [] (0, 9, 12, 13) [] rfl (fun _ h9 => absurd h9 List.not_mem_nil) (by decide +kernel) (by decide) (by decide) v_i508 n_i522 (fun q => ?_)
      refine gw_astoren C 3 [(3, .ref q), (0, .ref o), (1, .int a1), (2, .ref ao)] dL_timeByEvents_12 rfl (by decide) rfl ?_
      refine gw_iconst C 1 dL_timeByEvents_13 (by decide) ?_
      exact gw_iret C Em dL_timeByEvents_14 h
  · rintro v S' ⟨r, rfl, h⟩ _
    refine gw_i2l C dL_timeByEvents_7 ?_
    refine gw_out C dL_timeByEvents_8 ?_
    refine gw_goto C 15 dL_timeByEvents_9 (by decide) ?_
    refine gw_iconst C 0 dL_timeByEvents_15 (by decide) ?_
    exact gw_iret C Em dL_timeByEvents_16 h
theorem k_soundVoice (l : Launch) (D : va_G) (K : Nat → ClassId) (E0 : Nat) (B : Nat × Nat) (A0 : Nat → Prop) (ao o : Nat) (a1 : Int32) (S : CS) (ov : Nat → Int64) (P : Int32 → (Nat → Int64) → CS → Prop) (hk : kdC S o = 14) (h : w_X11_soundVoice B o a1 S (fun r S' => P 0 (va_up ov 0 (Int32.toInt64 r)) S') (fun E S' => (E = "java/lang/IndexOutOfBoundsException" ∧ P 1 ov S'))) : MetW l yL_soundVoice cL_soundVoice 4 [(0, 9, 12, 21)] 13 [.ref o, .int a1, .ref ao] P D K E0 B A0 ao S ov := by
  refine gw_start (by decide) rfl (Nat.le_of_ble_eq_true rfl) (fun p e s m args below meth c C htab Em => ?_)
  refine gw_aloadn C 2 2 dL_soundVoice_0 rfl rfl ?_
  refine gw_iconst C 0 dL_soundVoice_1 (by decide) ?_
  refine gw_aloadn C 0 0 dL_soundVoice_2 rfl rfl ?_
  refine gw_iloadn C 1 1 dL_soundVoice_3 rfl rfl ?_
  refine gw_call C (y := yX11_soundVoice) (as := [.int a1]) rfl (by decide) (by decide) (c_X11_soundVoice l D K E0 B A0 o a1 S _ _ h) hk_X11_soundVoice rfl vl_L_97 kc_X11_soundVoice (isC_of hk (by decide)) dL_soundVoice_4 (Nat.le_of_ble_eq_true rfl) ?_ ?_
  · rintro E S' hx
    rcases hx with ⟨rfl, h⟩
    · refine gw_catch C htab [] (0, 9, 12, 21) [] rfl (fun _ h9 => absurd h9 List.not_mem_nil) (by decide +kernel) (by decide) (by decide) v_i657 n_i671 (fun q => ?_)
      refine gw_astoren C 3 [(3, .ref q), (0, .ref o), (1, .int a1), (2, .ref ao)] dL_soundVoice_12 rfl (by decide) rfl ?_
      refine gw_iconst C 1 dL_soundVoice_13 (by decide) ?_
      exact gw_iret C Em dL_soundVoice_14 h
  · rintro v S' ⟨r, rfl, h⟩ _
    refine gw_i2l C dL_soundVoice_7 ?_
    refine gw_out C dL_soundVoice_8 ?_
    refine gw_goto C 15 dL_soundVoice_9 (by decide) ?_
    refine gw_iconst C 0 dL_soundVoice_15 (by decide) ?_
    exact gw_iret C Em dL_soundVoice_16 h
theorem k_soundStart (l : Launch) (D : va_G) (K : Nat → ClassId) (E0 : Nat) (B : Nat × Nat) (A0 : Nat → Prop) (ao o : Nat) (a1 : Int32) (S : CS) (ov : Nat → Int64) (P : Int32 → (Nat → Int64) → CS → Prop) (hk : kdC S o = 14) (h : w_X11_soundStart B o a1 S (fun r S' => P 0 (va_up ov 0 (Int32.toInt64 r)) S') (fun E S' => (E = "java/lang/IndexOutOfBoundsException" ∧ P 1 ov S'))) : MetW l yL_soundStart cL_soundStart 4 [(0, 9, 12, 21)] 13 [.ref o, .int a1, .ref ao] P D K E0 B A0 ao S ov := by
  refine gw_start (by decide) rfl (Nat.le_of_ble_eq_true rfl) (fun p e s m args below meth c C htab Em => ?_)
  refine gw_aloadn C 2 2 dL_soundStart_0 rfl rfl ?_
  refine gw_iconst C 0 dL_soundStart_1 (by decide) ?_
  refine gw_aloadn C 0 0 dL_soundStart_2 rfl rfl ?_
  refine gw_iloadn C 1 1 dL_soundStart_3 rfl rfl ?_
  refine gw_call C (y := yX11_soundStart) (as := [.int a1]) rfl (by decide) (by decide) (c_X11_soundStart l D K E0 B A0 o a1 S _ _ h) hk_X11_soundStart rfl vl_L_100 kc_X11_soundStart (isC_of hk (by decide)) dL_soundStart_4 (Nat.le_of_ble_eq_true rfl) ?_ ?_
  · rintro E S' hx
    rcases hx with ⟨rfl, h⟩
    · refine gw_catch C htab [] (0, 9, 12, 21) [] rfl (fun _ h9 => absurd h9 List.not_mem_nil) (by decide +kernel) (by decide) (by decide) v_i657 n_i671 (fun q => ?_)
      refine gw_astoren C 3 [(3, .ref q), (0, .ref o), (1, .int a1), (2, .ref ao)] dL_soundStart_12 rfl (by decide) rfl ?_
      refine gw_iconst C 1 dL_soundStart_13 (by decide) ?_
      exact gw_iret C Em dL_soundStart_14 h
  · rintro v S' ⟨r, rfl, h⟩ _
    refine gw_i2l C dL_soundStart_7 ?_
    refine gw_out C dL_soundStart_8 ?_
    refine gw_goto C 15 dL_soundStart_9 (by decide) ?_
    refine gw_iconst C 0 dL_soundStart_15 (by decide) ?_
    exact gw_iret C Em dL_soundStart_16 h
theorem k_soundTime (l : Launch) (D : va_G) (K : Nat → ClassId) (E0 : Nat) (B : Nat × Nat) (A0 : Nat → Prop) (ao o : Nat) (a1 : Int32) (S : CS) (ov : Nat → Int64) (P : Int32 → (Nat → Int64) → CS → Prop) (hk : kdC S o = 14) (h : w_X11_soundTime B o a1 S (fun r S' => P 0 (va_up ov 0 (Int32.toInt64 r)) S') (fun E S' => (E = "java/lang/IndexOutOfBoundsException" ∧ P 1 ov S'))) : MetW l yL_soundTime cL_soundTime 4 [(0, 9, 12, 21)] 13 [.ref o, .int a1, .ref ao] P D K E0 B A0 ao S ov := by
  refine gw_start (by decide) rfl (Nat.le_of_ble_eq_true rfl) (fun p e s m args below meth c C htab Em => ?_)
  refine gw_aloadn C 2 2 dL_soundTime_0 rfl rfl ?_
  refine gw_iconst C 0 dL_soundTime_1 (by decide) ?_
  refine gw_aloadn C 0 0 dL_soundTime_2 rfl rfl ?_
  refine gw_iloadn C 1 1 dL_soundTime_3 rfl rfl ?_
  refine gw_call C (y := yX11_soundTime) (as := [.int a1]) rfl (by decide) (by decide) (c_X11_soundTime l D K E0 B A0 o a1 S _ _ h) hk_X11_soundTime rfl vl_L_103 kc_X11_soundTime (isC_of hk (by decide)) dL_soundTime_4 (Nat.le_of_ble_eq_true rfl) ?_ ?_
  · rintro E S' hx
    rcases hx with ⟨rfl, h⟩
    · refine gw_catch C htab [] (0, 9, 12, 21) [] rfl (fun _ h9 => absurd h9 List.not_mem_nil) (by decide +kernel) (by decide) (by decide) v_i657 n_i671 (fun q => ?_)
      refine gw_astoren C 3 [(3, .ref q), (0, .ref o), (1, .int a1), (2, .ref ao)] dL_soundTime_12 rfl (by decide) rfl ?_
      refine gw_iconst C 1 dL_soundTime_13 (by decide) ?_
      exact gw_iret C Em dL_soundTime_14 h
  · rintro v S' ⟨r, rfl, h⟩ _
    refine gw_i2l C dL_soundTime_7 ?_
    refine gw_out C dL_soundTime_8 ?_
    refine gw_goto C 15 dL_soundTime_9 (by decide) ?_
    refine gw_iconst C 0 dL_soundTime_15 (by decide) ?_
    exact gw_iret C Em dL_soundTime_16 h
theorem k_soundPitch (l : Launch) (D : va_G) (K : Nat → ClassId) (E0 : Nat) (B : Nat × Nat) (A0 : Nat → Prop) (ao o : Nat) (a1 : Int32) (S : CS) (ov : Nat → Int64) (P : Int32 → (Nat → Int64) → CS → Prop) (hk : kdC S o = 14) (h : w_X11_soundPitch B o a1 S (fun r S' => P 0 (va_up ov 0 (Int32.toInt64 r)) S') (fun E S' => (E = "java/lang/IndexOutOfBoundsException" ∧ P 1 ov S'))) : MetW l yL_soundPitch cL_soundPitch 4 [(0, 9, 12, 21)] 13 [.ref o, .int a1, .ref ao] P D K E0 B A0 ao S ov := by
  refine gw_start (by decide) rfl (Nat.le_of_ble_eq_true rfl) (fun p e s m args below meth c C htab Em => ?_)
  refine gw_aloadn C 2 2 dL_soundPitch_0 rfl rfl ?_
  refine gw_iconst C 0 dL_soundPitch_1 (by decide) ?_
  refine gw_aloadn C 0 0 dL_soundPitch_2 rfl rfl ?_
  refine gw_iloadn C 1 1 dL_soundPitch_3 rfl rfl ?_
  refine gw_call C (y := yX11_soundPitch) (as := [.int a1]) rfl (by decide) (by decide) (c_X11_soundPitch l D K E0 B A0 o a1 S _ _ h) hk_X11_soundPitch rfl vl_L_106 kc_X11_soundPitch (isC_of hk (by decide)) dL_soundPitch_4 (Nat.le_of_ble_eq_true rfl) ?_ ?_
  · rintro E S' hx
    rcases hx with ⟨rfl, h⟩
    · refine gw_catch C htab [] (0, 9, 12, 21) [] rfl (fun _ h9 => absurd h9 List.not_mem_nil) (by decide +kernel) (by decide) (by decide) v_i657 n_i671 (fun q => ?_)
      refine gw_astoren C 3 [(3, .ref q), (0, .ref o), (1, .int a1), (2, .ref ao)] dL_soundPitch_12 rfl (by decide) rfl ?_
      refine gw_iconst C 1 dL_soundPitch_13 (by decide) ?_
      exact gw_iret C Em dL_soundPitch_14 h
  · rintro v S' ⟨r, rfl, h⟩ _
    refine gw_i2l C dL_soundPitch_7 ?_
    refine gw_out C dL_soundPitch_8 ?_
    refine gw_goto C 15 dL_soundPitch_9 (by decide) ?_
    refine gw_iconst C 0 dL_soundPitch_15 (by decide) ?_
    exact gw_iret C Em dL_soundPitch_16 h
theorem k_loudness (l : Launch) (D : va_G) (K : Nat → ClassId) (E0 : Nat) (B : Nat × Nat) (A0 : Nat → Prop) (ao o : Nat) (a1 : Int32) (S : CS) (ov : Nat → Int64) (P : Int32 → (Nat → Int64) → CS → Prop) (hk : kdC S o = 14) (h : w_X11_loudness B o a1 S (fun r S' => P 0 (va_up ov 0 (Int32.toInt64 r)) S') (fun E S' => (E = "java/lang/IndexOutOfBoundsException" ∧ P 1 ov S'))) : MetW l yL_loudness cL_loudness 4 [(0, 9, 12, 21)] 13 [.ref o, .int a1, .ref ao] P D K E0 B A0 ao S ov := by
  refine gw_start (by decide) rfl (Nat.le_of_ble_eq_true rfl) (fun p e s m args below meth c C htab Em => ?_)
  refine gw_aloadn C 2 2 dL_loudness_0 rfl rfl ?_
  refine gw_iconst C 0 dL_loudness_1 (by decide) ?_
  refine gw_aloadn C 0 0 dL_loudness_2 rfl rfl ?_
  refine gw_iloadn C 1 1 dL_loudness_3 rfl rfl ?_
  refine gw_call C (y := yX11_loudness) (as := [.int a1]) rfl (by decide) (by decide) (c_X11_loudness l D K E0 B A0 o a1 S _ _ h) hk_X11_loudness rfl vl_L_109 kc_X11_loudness (isC_of hk (by decide)) dL_loudness_4 (Nat.le_of_ble_eq_true rfl) ?_ ?_
  · rintro E S' hx
    rcases hx with ⟨rfl, h⟩
    · refine gw_catch C htab [] (0, 9, 12, 21) [] rfl (fun _ h9 => absurd h9 List.not_mem_nil) (by decide +kernel) (by decide) (by decide) v_i657 n_i671 (fun q => ?_)
      refine gw_astoren C 3 [(3, .ref q), (0, .ref o), (1, .int a1), (2, .ref ao)] dL_loudness_12 rfl (by decide) rfl ?_
      refine gw_iconst C 1 dL_loudness_13 (by decide) ?_
      exact gw_iret C Em dL_loudness_14 h
  · rintro v S' ⟨r, rfl, h⟩ _
    refine gw_i2l C dL_loudness_7 ?_
    refine gw_out C dL_loudness_8 ?_
    refine gw_goto C 15 dL_loudness_9 (by decide) ?_
    refine gw_iconst C 0 dL_loudness_15 (by decide) ?_
    exact gw_iret C Em dL_loudness_16 h
theorem k_setPaper (l : Launch) (D : va_G) (K : Nat → ClassId) (E0 : Nat) (B : Nat × Nat) (A0 : Nat → Prop) (ao o : Nat) (a1 : Int32) (a2 : Int32) (a3 : Int32) (S : CS) (ov : Nat → Int64) (P : Int32 → (Nat → Int64) → CS → Prop) (hk : kdC S o = 14) (h : w_X11_setPaper B o a1 a2 a3 S (fun S' => P 0 ov S') (fun E S' => (E = "java/lang/IllegalArgumentException" ∧ P 1 ov S'))) : MetW l yL_setPaper cL_setPaper 5 [(0, 7, 10, 13)] 8 [.ref o, .int a1, .int a2, .int a3] P D K E0 B A0 ao S ov := by
  refine gw_start (by decide) rfl (Nat.le_of_ble_eq_true rfl) (fun p e s m args below meth c C htab Em => ?_)
  refine gw_aloadn C 0 0 dL_setPaper_0 rfl rfl ?_
  refine gw_iloadn C 1 1 dL_setPaper_1 rfl rfl ?_
  refine gw_iloadn C 2 2 dL_setPaper_2 rfl rfl ?_
  refine gw_iloadn C 3 3 dL_setPaper_3 rfl rfl ?_
  refine gw_call C (y := yX11_setPaper) (as := [.int a1, .int a2, .int a3]) rfl (by decide) (by decide) (c_X11_setPaper l D K E0 B A0 o a1 a2 a3 S _ _ h) hk_X11_setPaper rfl vl_L_112 kc_X11_setPaper (isC_of hk (by decide)) dL_setPaper_4 (Nat.le_of_ble_eq_true rfl) ?_ ?_
  · rintro E S' hx
    rcases hx with ⟨rfl, h⟩
    · refine gw_catch C htab [] (0, 7, 10, 13) [] rfl (fun _ h9 => absurd h9 List.not_mem_nil) (by decide +kernel) (by decide) (by decide) v_i508 n_i522 (fun q => ?_)
      refine gw_astore C [(4, .ref q), (0, .ref o), (1, .int a1), (2, .int a2), (3, .int a3)] dL_setPaper_10 (by decide) rfl ?_
      refine gw_iconst C 1 dL_setPaper_12 (by decide) ?_
      exact gw_iret C Em dL_setPaper_13 h
  · rintro v S' ⟨rfl, h⟩ _
    refine gw_goto C 14 dL_setPaper_7 (by decide) ?_
    refine gw_iconst C 0 dL_setPaper_14 (by decide) ?_
    exact gw_iret C Em dL_setPaper_15 h
theorem k_items (l : Launch) (D : va_G) (K : Nat → ClassId) (E0 : Nat) (B : Nat × Nat) (A0 : Nat → Prop) (ao o : Nat) (a1 : Int32) (S : CS) (ov : Nat → Int64) (P : Int32 → (Nat → Int64) → CS → Prop) (hk : kdC S o = 14) (h : w_X11_items B o a1 S (fun r S' => P 0 (va_up ov 0 (Int32.toInt64 r)) S') (fun E S' => (E = "java/lang/IllegalArgumentException" ∧ P 1 ov S') ∨ (E = "java/lang/IllegalStateException" ∧ P 2 ov S'))) : MetW l yL_items cL_items 4 [(0, 9, 12, 13), (0, 9, 15, 15)] 13 [.ref o, .int a1, .ref ao] P D K E0 B A0 ao S ov := by
  refine gw_start (by decide) rfl (Nat.le_of_ble_eq_true rfl) (fun p e s m args below meth c C htab Em => ?_)
  refine gw_aloadn C 2 2 dL_items_0 rfl rfl ?_
  refine gw_iconst C 0 dL_items_1 (by decide) ?_
  refine gw_aloadn C 0 0 dL_items_2 rfl rfl ?_
  refine gw_iloadn C 1 1 dL_items_3 rfl rfl ?_
  refine gw_call C (y := yX11_items) (as := [.int a1]) rfl (by decide) (by decide) (c_X11_items l D K E0 B A0 o a1 S _ _ h) hk_X11_items rfl vl_L_116 kc_X11_items (isC_of hk (by decide)) dL_items_4 (Nat.le_of_ble_eq_true rfl) ?_ ?_
  · rintro E S' hx
    rcases hx with ⟨rfl, h⟩ | ⟨rfl, h⟩
    · refine gw_catch C htab [] (0, 9, 12, 13) [(0, 9, 15, 15)] rfl (fun _ h9 => absurd h9 List.not_mem_nil) (by decide +kernel) (by decide) (by decide) v_i508 n_i522 (fun q => ?_)
      refine gw_astoren C 3 [(3, .ref q), (0, .ref o), (1, .int a1), (2, .ref ao)] dL_items_12 rfl (by decide) rfl ?_
      refine gw_iconst C 1 dL_items_13 (by decide) ?_
      exact gw_iret C Em dL_items_14 h
    · refine gw_catch C htab [(0, 9, 12, 13)] (0, 9, 15, 15) [] rfl (List.forall_mem_cons.mpr ⟨⟨by decide, "java/lang/IllegalArgumentException", v_i508, by decide +kernel, by decide +kernel⟩, fun _ h9 => absurd h9 List.not_mem_nil⟩) (by decide +kernel) (by decide) (by decide) v_i509 n_i591 (fun q => ?_)
      refine gw_astoren C 3 [(3, .ref q), (0, .ref o), (1, .int a1), (2, .ref ao)] dL_items_15 rfl (by decide) rfl ?_
      refine gw_iconst C 2 dL_items_16 (by decide) ?_
      exact gw_iret C Em dL_items_17 h
  · rintro v S' ⟨r, rfl, h⟩ _
    refine gw_i2l C dL_items_7 ?_
    refine gw_out C dL_items_8 ?_
    refine gw_goto C 18 dL_items_9 (by decide) ?_
    refine gw_iconst C 0 dL_items_18 (by decide) ?_
    exact gw_iret C Em dL_items_19 h
theorem k_itemKind (l : Launch) (D : va_G) (K : Nat → ClassId) (E0 : Nat) (B : Nat × Nat) (A0 : Nat → Prop) (ao o : Nat) (a1 : Int32) (a2 : Int32) (S : CS) (ov : Nat → Int64) (P : Int32 → (Nat → Int64) → CS → Prop) (hk : kdC S o = 14) (h : w_X11_itemKind B o a1 a2 S (fun r S' => P 0 (va_up ov 0 (Int32.toInt64 r)) S') (fun E S' => (E = "java/lang/IllegalArgumentException" ∧ P 1 ov S') ∨ (E = "java/lang/IllegalStateException" ∧ P 2 ov S') ∨ (E = "java/lang/IndexOutOfBoundsException" ∧ P 3 ov S'))) : MetW l yL_itemKind cL_itemKind 5 [(0, 10, 13, 13), (0, 10, 17, 15), (0, 10, 21, 21)] 13 [.ref o, .int a1, .int a2, .ref ao] P D K E0 B A0 ao S ov := by
  refine gw_start (by decide) rfl (Nat.le_of_ble_eq_true rfl) (fun p e s m args below meth c C htab Em => ?_)
  refine gw_aloadn C 3 3 dL_itemKind_0 rfl rfl ?_
  refine gw_iconst C 0 dL_itemKind_1 (by decide) ?_
  refine gw_aloadn C 0 0 dL_itemKind_2 rfl rfl ?_
  refine gw_iloadn C 1 1 dL_itemKind_3 rfl rfl ?_
  refine gw_iloadn C 2 2 dL_itemKind_4 rfl rfl ?_
  refine gw_call C (y := yX11_itemKind) (as := [.int a1, .int a2]) rfl (by decide) (by decide) (c_X11_itemKind l D K E0 B A0 o a1 a2 S _ _ h) hk_X11_itemKind rfl vl_L_119 kc_X11_itemKind (isC_of hk (by decide)) dL_itemKind_5 (Nat.le_of_ble_eq_true rfl) ?_ ?_
  · rintro E S' hx
    rcases hx with ⟨rfl, h⟩ | ⟨rfl, h⟩ | ⟨rfl, h⟩
    · refine gw_catch C htab [] (0, 10, 13, 13) [(0, 10, 17, 15), (0, 10, 21, 21)] rfl (fun _ h9 => absurd h9 List.not_mem_nil) (by decide +kernel) (by decide) (by decide) v_i508 n_i522 (fun q => ?_)
      refine gw_astore C [(4, .ref q), (0, .ref o), (1, .int a1), (2, .int a2), (3, .ref ao)] dL_itemKind_13 (by decide) rfl ?_
      refine gw_iconst C 1 dL_itemKind_15 (by decide) ?_
      exact gw_iret C Em dL_itemKind_16 h
    · refine gw_catch C htab [(0, 10, 13, 13)] (0, 10, 17, 15) [(0, 10, 21, 21)] rfl (List.forall_mem_cons.mpr ⟨⟨by decide, "java/lang/IllegalArgumentException", v_i508, by decide +kernel, by decide +kernel⟩, fun _ h9 => absurd h9 List.not_mem_nil⟩) (by decide +kernel) (by decide) (by decide) v_i509 n_i591 (fun q => ?_)
      refine gw_astore C [(4, .ref q), (0, .ref o), (1, .int a1), (2, .int a2), (3, .ref ao)] dL_itemKind_17 (by decide) rfl ?_
      refine gw_iconst C 2 dL_itemKind_19 (by decide) ?_
      exact gw_iret C Em dL_itemKind_20 h
    · refine gw_catch C htab [(0, 10, 13, 13), (0, 10, 17, 15)] (0, 10, 21, 21) [] rfl (List.forall_mem_cons.mpr ⟨⟨by decide, "java/lang/IllegalArgumentException", v_i508, by decide +kernel, by decide +kernel⟩, List.forall_mem_cons.mpr ⟨⟨by decide, "java/lang/IllegalStateException", v_i509, by decide +kernel, by decide +kernel⟩, fun _ h9 => absurd h9 List.not_mem_nil⟩⟩) (by decide +kernel) (by decide) (by decide) v_i657 n_i671 (fun q => ?_)
      refine gw_astore C [(4, .ref q), (0, .ref o), (1, .int a1), (2, .int a2), (3, .ref ao)] dL_itemKind_21 (by decide) rfl ?_
      refine gw_iconst C 3 dL_itemKind_23 (by decide) ?_
      exact gw_iret C Em dL_itemKind_24 h
  · rintro v S' ⟨r, rfl, h⟩ _
    refine gw_i2l C dL_itemKind_8 ?_
    refine gw_out C dL_itemKind_9 ?_
    refine gw_goto C 25 dL_itemKind_10 (by decide) ?_
    refine gw_iconst C 0 dL_itemKind_25 (by decide) ?_
    exact gw_iret C Em dL_itemKind_26 h
theorem k_itemBar (l : Launch) (D : va_G) (K : Nat → ClassId) (E0 : Nat) (B : Nat × Nat) (A0 : Nat → Prop) (ao o : Nat) (a1 : Int32) (a2 : Int32) (S : CS) (ov : Nat → Int64) (P : Int32 → (Nat → Int64) → CS → Prop) (hk : kdC S o = 14) (h : w_X11_itemBar B o a1 a2 S (fun r S' => P 0 (va_up ov 0 (Int32.toInt64 r)) S') (fun E S' => (E = "java/lang/IllegalArgumentException" ∧ P 1 ov S') ∨ (E = "java/lang/IllegalStateException" ∧ P 2 ov S') ∨ (E = "java/lang/IndexOutOfBoundsException" ∧ P 3 ov S'))) : MetW l yL_itemBar cL_itemBar 5 [(0, 10, 13, 13), (0, 10, 17, 15), (0, 10, 21, 21)] 13 [.ref o, .int a1, .int a2, .ref ao] P D K E0 B A0 ao S ov := by
  refine gw_start (by decide) rfl (Nat.le_of_ble_eq_true rfl) (fun p e s m args below meth c C htab Em => ?_)
  refine gw_aloadn C 3 3 dL_itemBar_0 rfl rfl ?_
  refine gw_iconst C 0 dL_itemBar_1 (by decide) ?_
  refine gw_aloadn C 0 0 dL_itemBar_2 rfl rfl ?_
  refine gw_iloadn C 1 1 dL_itemBar_3 rfl rfl ?_
  refine gw_iloadn C 2 2 dL_itemBar_4 rfl rfl ?_
  refine gw_call C (y := yX11_itemBar) (as := [.int a1, .int a2]) rfl (by decide) (by decide) (c_X11_itemBar l D K E0 B A0 o a1 a2 S _ _ h) hk_X11_itemBar rfl vl_L_122 kc_X11_itemBar (isC_of hk (by decide)) dL_itemBar_5 (Nat.le_of_ble_eq_true rfl) ?_ ?_
  · rintro E S' hx
    rcases hx with ⟨rfl, h⟩ | ⟨rfl, h⟩ | ⟨rfl, h⟩
    · refine gw_catch C htab [] (0, 10, 13, 13) [(0, 10, 17, 15), (0, 10, 21, 21)] rfl (fun _ h9 => absurd h9 List.not_mem_nil) (by decide +kernel) (by decide) (by decide) v_i508 n_i522 (fun q => ?_)
      refine gw_astore C [(4, .ref q), (0, .ref o), (1, .int a1), (2, .int a2), (3, .ref ao)] dL_itemBar_13 (by decide) rfl ?_
      refine gw_iconst C 1 dL_itemBar_15 (by decide) ?_
      exact gw_iret C Em dL_itemBar_16 h
    · refine gw_catch C htab [(0, 10, 13, 13)] (0, 10, 17, 15) [(0, 10, 21, 21)] rfl (List.forall_mem_cons.mpr ⟨⟨by decide, "java/lang/IllegalArgumentException", v_i508, by decide +kernel, by decide +kernel⟩, fun _ h9 => absurd h9 List.not_mem_nil⟩) (by decide +kernel) (by decide) (by decide) v_i509 n_i591 (fun q => ?_)
      refine gw_astore C [(4, .ref q), (0, .ref o), (1, .int a1), (2, .int a2), (3, .ref ao)] dL_itemBar_17 (by decide) rfl ?_
      refine gw_iconst C 2 dL_itemBar_19 (by decide) ?_
      exact gw_iret C Em dL_itemBar_20 h
    · refine gw_catch C htab [(0, 10, 13, 13), (0, 10, 17, 15)] (0, 10, 21, 21) [] rfl (List.forall_mem_cons.mpr ⟨⟨by decide, "java/lang/IllegalArgumentException", v_i508, by decide +kernel, by decide +kernel⟩, List.forall_mem_cons.mpr ⟨⟨by decide, "java/lang/IllegalStateException", v_i509, by decide +kernel, by decide +kernel⟩, fun _ h9 => absurd h9 List.not_mem_nil⟩⟩) (by decide +kernel) (by decide) (by decide) v_i657 n_i671 (fun q => ?_)
      refine gw_astore C [(4, .ref q), (0, .ref o), (1, .int a1), (2, .int a2), (3, .ref ao)] dL_itemBar_21 (by decide) rfl ?_
      refine gw_iconst C 3 dL_itemBar_23 (by decide) ?_
      exact gw_iret C Em dL_itemBar_24 h
  · rintro v S' ⟨r, rfl, h⟩ _
    refine gw_i2l C dL_itemBar_8 ?_
    refine gw_out C dL_itemBar_9 ?_
    refine gw_goto C 25 dL_itemBar_10 (by decide) ?_
    refine gw_iconst C 0 dL_itemBar_25 (by decide) ?_
    exact gw_iret C Em dL_itemBar_26 h
theorem k_itemBars (l : Launch) (D : va_G) (K : Nat → ClassId) (E0 : Nat) (B : Nat × Nat) (A0 : Nat → Prop) (ao o : Nat) (a1 : Int32) (a2 : Int32) (S : CS) (ov : Nat → Int64) (P : Int32 → (Nat → Int64) → CS → Prop) (hk : kdC S o = 14) (h : w_X11_itemBars B o a1 a2 S (fun r S' => P 0 (va_up ov 0 (Int32.toInt64 r)) S') (fun E S' => (E = "java/lang/IllegalArgumentException" ∧ P 1 ov S') ∨ (E = "java/lang/IllegalStateException" ∧ P 2 ov S') ∨ (E = "java/lang/IndexOutOfBoundsException" ∧ P 3 ov S'))) : MetW l yL_itemBars cL_itemBars 5 [(0, 10, 13, 13), (0, 10, 17, 15), (0, 10, 21, 21)] 13 [.ref o, .int a1, .int a2, .ref ao] P D K E0 B A0 ao S ov := by
  refine gw_start (by decide) rfl (Nat.le_of_ble_eq_true rfl) (fun p e s m args below meth c C htab Em => ?_)
  refine gw_aloadn C 3 3 dL_itemBars_0 rfl rfl ?_
  refine gw_iconst C 0 dL_itemBars_1 (by decide) ?_
  refine gw_aloadn C 0 0 dL_itemBars_2 rfl rfl ?_
  refine gw_iloadn C 1 1 dL_itemBars_3 rfl rfl ?_
  refine gw_iloadn C 2 2 dL_itemBars_4 rfl rfl ?_
  refine gw_call C (y := yX11_itemBars) (as := [.int a1, .int a2]) rfl (by decide) (by decide) (c_X11_itemBars l D K E0 B A0 o a1 a2 S _ _ h) hk_X11_itemBars rfl vl_L_125 kc_X11_itemBars (isC_of hk (by decide)) dL_itemBars_5 (Nat.le_of_ble_eq_true rfl) ?_ ?_
  · rintro E S' hx
    rcases hx with ⟨rfl, h⟩ | ⟨rfl, h⟩ | ⟨rfl, h⟩
    · refine gw_catch C htab [] (0, 10, 13, 13) [(0, 10, 17, 15), (0, 10, 21, 21)] rfl (fun _ h9 => absurd h9 List.not_mem_nil) (by decide +kernel) (by decide) (by decide) v_i508 n_i522 (fun q => ?_)
      refine gw_astore C [(4, .ref q), (0, .ref o), (1, .int a1), (2, .int a2), (3, .ref ao)] dL_itemBars_13 (by decide) rfl ?_
      refine gw_iconst C 1 dL_itemBars_15 (by decide) ?_
      exact gw_iret C Em dL_itemBars_16 h
    · refine gw_catch C htab [(0, 10, 13, 13)] (0, 10, 17, 15) [(0, 10, 21, 21)] rfl (List.forall_mem_cons.mpr ⟨⟨by decide, "java/lang/IllegalArgumentException", v_i508, by decide +kernel, by decide +kernel⟩, fun _ h9 => absurd h9 List.not_mem_nil⟩) (by decide +kernel) (by decide) (by decide) v_i509 n_i591 (fun q => ?_)
      refine gw_astore C [(4, .ref q), (0, .ref o), (1, .int a1), (2, .int a2), (3, .ref ao)] dL_itemBars_17 (by decide) rfl ?_
      refine gw_iconst C 2 dL_itemBars_19 (by decide) ?_
      exact gw_iret C Em dL_itemBars_20 h
    · refine gw_catch C htab [(0, 10, 13, 13), (0, 10, 17, 15)] (0, 10, 21, 21) [] rfl (List.forall_mem_cons.mpr ⟨⟨by decide, "java/lang/IllegalArgumentException", v_i508, by decide +kernel, by decide +kernel⟩, List.forall_mem_cons.mpr ⟨⟨by decide, "java/lang/IllegalStateException", v_i509, by decide +kernel, by decide +kernel⟩, fun _ h9 => absurd h9 List.not_mem_nil⟩⟩) (by decide +kernel) (by decide) (by decide) v_i657 n_i671 (fun q => ?_)
      refine gw_astore C [(4, .ref q), (0, .ref o), (1, .int a1), (2, .int a2), (3, .ref ao)] dL_itemBars_21 (by decide) rfl ?_
      refine gw_iconst C 3 dL_itemBars_23 (by decide) ?_
      exact gw_iret C Em dL_itemBars_24 h
  · rintro v S' ⟨r, rfl, h⟩ _
    refine gw_i2l C dL_itemBars_8 ?_
    refine gw_out C dL_itemBars_9 ?_
    refine gw_goto C 25 dL_itemBars_10 (by decide) ?_
    refine gw_iconst C 0 dL_itemBars_25 (by decide) ?_
    exact gw_iret C Em dL_itemBars_26 h
theorem k_cue (l : Launch) (D : va_G) (K : Nat → ClassId) (E0 : Nat) (B : Nat × Nat) (A0 : Nat → Prop) (ao o : Nat) (a1 : Int32) (a2 : Int32) (S : CS) (ov : Nat → Int64) (P : Int32 → (Nat → Int64) → CS → Prop) (hk : kdC S o = 14) (h : w_X11_cue B o a1 a2 S (fun r S' => P 0 (va_up ov 0 (Int32.toInt64 r)) S') (fun E S' => (E = "java/lang/IllegalArgumentException" ∧ P 1 ov S') ∨ (E = "java/lang/IllegalStateException" ∧ P 2 ov S') ∨ (E = "java/lang/IndexOutOfBoundsException" ∧ P 3 ov S'))) : MetW l yL_cue cL_cue 5 [(0, 10, 13, 13), (0, 10, 17, 15), (0, 10, 21, 21)] 13 [.ref o, .int a1, .int a2, .ref ao] P D K E0 B A0 ao S ov := by
  refine gw_start (by decide) rfl (Nat.le_of_ble_eq_true rfl) (fun p e s m args below meth c C htab Em => ?_)
  refine gw_aloadn C 3 3 dL_cue_0 rfl rfl ?_
  refine gw_iconst C 0 dL_cue_1 (by decide) ?_
  refine gw_aloadn C 0 0 dL_cue_2 rfl rfl ?_
  refine gw_iloadn C 1 1 dL_cue_3 rfl rfl ?_
  refine gw_iloadn C 2 2 dL_cue_4 rfl rfl ?_
  refine gw_call C (y := yX11_cue) (as := [.int a1, .int a2]) rfl (by decide) (by decide) (c_X11_cue l D K E0 B A0 o a1 a2 S _ _ h) hk_X11_cue rfl vl_L_128 kc_X11_cue (isC_of hk (by decide)) dL_cue_5 (Nat.le_of_ble_eq_true rfl) ?_ ?_
  · rintro E S' hx
    rcases hx with ⟨rfl, h⟩ | ⟨rfl, h⟩ | ⟨rfl, h⟩
    · refine gw_catch C htab [] (0, 10, 13, 13) [(0, 10, 17, 15), (0, 10, 21, 21)] rfl (fun _ h9 => absurd h9 List.not_mem_nil) (by decide +kernel) (by decide) (by decide) v_i508 n_i522 (fun q => ?_)
      refine gw_astore C [(4, .ref q), (0, .ref o), (1, .int a1), (2, .int a2), (3, .ref ao)] dL_cue_13 (by decide) rfl ?_
      refine gw_iconst C 1 dL_cue_15 (by decide) ?_
      exact gw_iret C Em dL_cue_16 h
    · refine gw_catch C htab [(0, 10, 13, 13)] (0, 10, 17, 15) [(0, 10, 21, 21)] rfl (List.forall_mem_cons.mpr ⟨⟨by decide, "java/lang/IllegalArgumentException", v_i508, by decide +kernel, by decide +kernel⟩, fun _ h9 => absurd h9 List.not_mem_nil⟩) (by decide +kernel) (by decide) (by decide) v_i509 n_i591 (fun q => ?_)
      refine gw_astore C [(4, .ref q), (0, .ref o), (1, .int a1), (2, .int a2), (3, .ref ao)] dL_cue_17 (by decide) rfl ?_
      refine gw_iconst C 2 dL_cue_19 (by decide) ?_
      exact gw_iret C Em dL_cue_20 h
    · refine gw_catch C htab [(0, 10, 13, 13), (0, 10, 17, 15)] (0, 10, 21, 21) [] rfl (List.forall_mem_cons.mpr ⟨⟨by decide, "java/lang/IllegalArgumentException", v_i508, by decide +kernel, by decide +kernel⟩, List.forall_mem_cons.mpr ⟨⟨by decide, "java/lang/IllegalStateException", v_i509, by decide +kernel, by decide +kernel⟩, fun _ h9 => absurd h9 List.not_mem_nil⟩⟩) (by decide +kernel) (by decide) (by decide) v_i657 n_i671 (fun q => ?_)
      refine gw_astore C [(4, .ref q), (0, .ref o), (1, .int a1), (2, .int a2), (3, .ref ao)] dL_cue_21 (by decide) rfl ?_
      refine gw_iconst C 3 dL_cue_23 (by decide) ?_
      exact gw_iret C Em dL_cue_24 h
  · rintro v S' ⟨r, rfl, h⟩ _
    refine gw_i2l C dL_cue_8 ?_
    refine gw_out C dL_cue_9 ?_
    refine gw_goto C 25 dL_cue_10 (by decide) ?_
    refine gw_iconst C 0 dL_cue_25 (by decide) ?_
    exact gw_iret C Em dL_cue_26 h
theorem k_itemWidth (l : Launch) (D : va_G) (K : Nat → ClassId) (E0 : Nat) (B : Nat × Nat) (A0 : Nat → Prop) (ao o : Nat) (a1 : Int32) (a2 : Int32) (S : CS) (ov : Nat → Int64) (P : Int32 → (Nat → Int64) → CS → Prop) (hk : kdC S o = 14) (h : w_X11_itemWidth B o a1 a2 S (fun r S' => P 0 (va_up ov 0 (Int32.toInt64 r)) S') (fun E S' => (E = "java/lang/IllegalArgumentException" ∧ P 1 ov S') ∨ (E = "java/lang/IllegalStateException" ∧ P 2 ov S') ∨ (E = "java/lang/IndexOutOfBoundsException" ∧ P 3 ov S'))) : MetW l yL_itemWidth cL_itemWidth 5 [(0, 10, 13, 13), (0, 10, 17, 15), (0, 10, 21, 21)] 13 [.ref o, .int a1, .int a2, .ref ao] P D K E0 B A0 ao S ov := by
  refine gw_start (by decide) rfl (Nat.le_of_ble_eq_true rfl) (fun p e s m args below meth c C htab Em => ?_)
  refine gw_aloadn C 3 3 dL_itemWidth_0 rfl rfl ?_
  refine gw_iconst C 0 dL_itemWidth_1 (by decide) ?_
  refine gw_aloadn C 0 0 dL_itemWidth_2 rfl rfl ?_
  refine gw_iloadn C 1 1 dL_itemWidth_3 rfl rfl ?_
  refine gw_iloadn C 2 2 dL_itemWidth_4 rfl rfl ?_
  refine gw_call C (y := yX11_itemWidth) (as := [.int a1, .int a2]) rfl (by decide) (by decide) (c_X11_itemWidth l D K E0 B A0 o a1 a2 S _ _ h) hk_X11_itemWidth rfl vl_L_131 kc_X11_itemWidth (isC_of hk (by decide)) dL_itemWidth_5 (Nat.le_of_ble_eq_true rfl) ?_ ?_
  · rintro E S' hx
    rcases hx with ⟨rfl, h⟩ | ⟨rfl, h⟩ | ⟨rfl, h⟩
    · refine gw_catch C htab [] (0, 10, 13, 13) [(0, 10, 17, 15), (0, 10, 21, 21)] rfl (fun _ h9 => absurd h9 List.not_mem_nil) (by decide +kernel) (by decide) (by decide) v_i508 n_i522 (fun q => ?_)
      refine gw_astore C [(4, .ref q), (0, .ref o), (1, .int a1), (2, .int a2), (3, .ref ao)] dL_itemWidth_13 (by decide) rfl ?_
      refine gw_iconst C 1 dL_itemWidth_15 (by decide) ?_
      exact gw_iret C Em dL_itemWidth_16 h
    · refine gw_catch C htab [(0, 10, 13, 13)] (0, 10, 17, 15) [(0, 10, 21, 21)] rfl (List.forall_mem_cons.mpr ⟨⟨by decide, "java/lang/IllegalArgumentException", v_i508, by decide +kernel, by decide +kernel⟩, fun _ h9 => absurd h9 List.not_mem_nil⟩) (by decide +kernel) (by decide) (by decide) v_i509 n_i591 (fun q => ?_)
      refine gw_astore C [(4, .ref q), (0, .ref o), (1, .int a1), (2, .int a2), (3, .ref ao)] dL_itemWidth_17 (by decide) rfl ?_
      refine gw_iconst C 2 dL_itemWidth_19 (by decide) ?_
      exact gw_iret C Em dL_itemWidth_20 h
    · refine gw_catch C htab [(0, 10, 13, 13), (0, 10, 17, 15)] (0, 10, 21, 21) [] rfl (List.forall_mem_cons.mpr ⟨⟨by decide, "java/lang/IllegalArgumentException", v_i508, by decide +kernel, by decide +kernel⟩, List.forall_mem_cons.mpr ⟨⟨by decide, "java/lang/IllegalStateException", v_i509, by decide +kernel, by decide +kernel⟩, fun _ h9 => absurd h9 List.not_mem_nil⟩⟩) (by decide +kernel) (by decide) (by decide) v_i657 n_i671 (fun q => ?_)
      refine gw_astore C [(4, .ref q), (0, .ref o), (1, .int a1), (2, .int a2), (3, .ref ao)] dL_itemWidth_21 (by decide) rfl ?_
      refine gw_iconst C 3 dL_itemWidth_23 (by decide) ?_
      exact gw_iret C Em dL_itemWidth_24 h
  · rintro v S' ⟨r, rfl, h⟩ _
    refine gw_i2l C dL_itemWidth_8 ?_
    refine gw_out C dL_itemWidth_9 ?_
    refine gw_goto C 25 dL_itemWidth_10 (by decide) ?_
    refine gw_iconst C 0 dL_itemWidth_25 (by decide) ?_
    exact gw_iret C Em dL_itemWidth_26 h
theorem k_lines (l : Launch) (D : va_G) (K : Nat → ClassId) (E0 : Nat) (B : Nat × Nat) (A0 : Nat → Prop) (ao o : Nat) (a1 : Int32) (S : CS) (ov : Nat → Int64) (P : Int32 → (Nat → Int64) → CS → Prop) (hk : kdC S o = 14) (h : w_X11_lines B o a1 S (fun r S' => P 0 (va_up ov 0 (Int32.toInt64 r)) S') (fun E S' => (E = "java/lang/IllegalArgumentException" ∧ P 1 ov S') ∨ (E = "java/lang/IllegalStateException" ∧ P 2 ov S'))) : MetW l yL_lines cL_lines 4 [(0, 9, 12, 13), (0, 9, 15, 15)] 13 [.ref o, .int a1, .ref ao] P D K E0 B A0 ao S ov := by
  refine gw_start (by decide) rfl (Nat.le_of_ble_eq_true rfl) (fun p e s m args below meth c C htab Em => ?_)
  refine gw_aloadn C 2 2 dL_lines_0 rfl rfl ?_
  refine gw_iconst C 0 dL_lines_1 (by decide) ?_
  refine gw_aloadn C 0 0 dL_lines_2 rfl rfl ?_
  refine gw_iloadn C 1 1 dL_lines_3 rfl rfl ?_
  refine gw_call C (y := yX11_lines) (as := [.int a1]) rfl (by decide) (by decide) (c_X11_lines l D K E0 B A0 o a1 S _ _ h) hk_X11_lines rfl vl_L_134 kc_X11_lines (isC_of hk (by decide)) dL_lines_4 (Nat.le_of_ble_eq_true rfl) ?_ ?_
  · rintro E S' hx
    rcases hx with ⟨rfl, h⟩ | ⟨rfl, h⟩
    · refine gw_catch C htab [] (0, 9, 12, 13) [(0, 9, 15, 15)] rfl (fun _ h9 => absurd h9 List.not_mem_nil) (by decide +kernel) (by decide) (by decide) v_i508 n_i522 (fun q => ?_)
      refine gw_astoren C 3 [(3, .ref q), (0, .ref o), (1, .int a1), (2, .ref ao)] dL_lines_12 rfl (by decide) rfl ?_
      refine gw_iconst C 1 dL_lines_13 (by decide) ?_
      exact gw_iret C Em dL_lines_14 h
    · refine gw_catch C htab [(0, 9, 12, 13)] (0, 9, 15, 15) [] rfl (List.forall_mem_cons.mpr ⟨⟨by decide, "java/lang/IllegalArgumentException", v_i508, by decide +kernel, by decide +kernel⟩, fun _ h9 => absurd h9 List.not_mem_nil⟩) (by decide +kernel) (by decide) (by decide) v_i509 n_i591 (fun q => ?_)
      refine gw_astoren C 3 [(3, .ref q), (0, .ref o), (1, .int a1), (2, .ref ao)] dL_lines_15 rfl (by decide) rfl ?_
      refine gw_iconst C 2 dL_lines_16 (by decide) ?_
      exact gw_iret C Em dL_lines_17 h
  · rintro v S' ⟨r, rfl, h⟩ _
    refine gw_i2l C dL_lines_7 ?_
    refine gw_out C dL_lines_8 ?_
    refine gw_goto C 18 dL_lines_9 (by decide) ?_
    refine gw_iconst C 0 dL_lines_18 (by decide) ?_
    exact gw_iret C Em dL_lines_19 h
theorem k_firstItem (l : Launch) (D : va_G) (K : Nat → ClassId) (E0 : Nat) (B : Nat × Nat) (A0 : Nat → Prop) (ao o : Nat) (a1 : Int32) (a2 : Int32) (S : CS) (ov : Nat → Int64) (P : Int32 → (Nat → Int64) → CS → Prop) (hk : kdC S o = 14) (h : w_X11_firstItem B o a1 a2 S (fun r S' => P 0 (va_up ov 0 (Int32.toInt64 r)) S') (fun E S' => (E = "java/lang/IllegalArgumentException" ∧ P 1 ov S') ∨ (E = "java/lang/IllegalStateException" ∧ P 2 ov S') ∨ (E = "java/lang/IndexOutOfBoundsException" ∧ P 3 ov S'))) : MetW l yL_firstItem cL_firstItem 5 [(0, 10, 13, 13), (0, 10, 17, 15), (0, 10, 21, 21)] 13 [.ref o, .int a1, .int a2, .ref ao] P D K E0 B A0 ao S ov := by
  refine gw_start (by decide) rfl (Nat.le_of_ble_eq_true rfl) (fun p e s m args below meth c C htab Em => ?_)
  refine gw_aloadn C 3 3 dL_firstItem_0 rfl rfl ?_
  refine gw_iconst C 0 dL_firstItem_1 (by decide) ?_
  refine gw_aloadn C 0 0 dL_firstItem_2 rfl rfl ?_
  refine gw_iloadn C 1 1 dL_firstItem_3 rfl rfl ?_
  refine gw_iloadn C 2 2 dL_firstItem_4 rfl rfl ?_
  refine gw_call C (y := yX11_firstItem) (as := [.int a1, .int a2]) rfl (by decide) (by decide) (c_X11_firstItem l D K E0 B A0 o a1 a2 S _ _ h) hk_X11_firstItem rfl vl_L_137 kc_X11_firstItem (isC_of hk (by decide)) dL_firstItem_5 (Nat.le_of_ble_eq_true rfl) ?_ ?_
  · rintro E S' hx
    rcases hx with ⟨rfl, h⟩ | ⟨rfl, h⟩ | ⟨rfl, h⟩
    · refine gw_catch C htab [] (0, 10, 13, 13) [(0, 10, 17, 15), (0, 10, 21, 21)] rfl (fun _ h9 => absurd h9 List.not_mem_nil) (by decide +kernel) (by decide) (by decide) v_i508 n_i522 (fun q => ?_)
      refine gw_astore C [(4, .ref q), (0, .ref o), (1, .int a1), (2, .int a2), (3, .ref ao)] dL_firstItem_13 (by decide) rfl ?_
      refine gw_iconst C 1 dL_firstItem_15 (by decide) ?_
      exact gw_iret C Em dL_firstItem_16 h
    · refine gw_catch C htab [(0, 10, 13, 13)] (0, 10, 17, 15) [(0, 10, 21, 21)] rfl (List.forall_mem_cons.mpr ⟨⟨by decide, "java/lang/IllegalArgumentException", v_i508, by decide +kernel, by decide +kernel⟩, fun _ h9 => absurd h9 List.not_mem_nil⟩) (by decide +kernel) (by decide) (by decide) v_i509 n_i591 (fun q => ?_)
      refine gw_astore C [(4, .ref q), (0, .ref o), (1, .int a1), (2, .int a2), (3, .ref ao)] dL_firstItem_17 (by decide) rfl ?_
      refine gw_iconst C 2 dL_firstItem_19 (by decide) ?_
      exact gw_iret C Em dL_firstItem_20 h
    · refine gw_catch C htab [(0, 10, 13, 13), (0, 10, 17, 15)] (0, 10, 21, 21) [] rfl (List.forall_mem_cons.mpr ⟨⟨by decide, "java/lang/IllegalArgumentException", v_i508, by decide +kernel, by decide +kernel⟩, List.forall_mem_cons.mpr ⟨⟨by decide, "java/lang/IllegalStateException", v_i509, by decide +kernel, by decide +kernel⟩, fun _ h9 => absurd h9 List.not_mem_nil⟩⟩) (by decide +kernel) (by decide) (by decide) v_i657 n_i671 (fun q => ?_)
      refine gw_astore C [(4, .ref q), (0, .ref o), (1, .int a1), (2, .int a2), (3, .ref ao)] dL_firstItem_21 (by decide) rfl ?_
      refine gw_iconst C 3 dL_firstItem_23 (by decide) ?_
      exact gw_iret C Em dL_firstItem_24 h
  · rintro v S' ⟨r, rfl, h⟩ _
    refine gw_i2l C dL_firstItem_8 ?_
    refine gw_out C dL_firstItem_9 ?_
    refine gw_goto C 25 dL_firstItem_10 (by decide) ?_
    refine gw_iconst C 0 dL_firstItem_25 (by decide) ?_
    exact gw_iret C Em dL_firstItem_26 h
theorem k_badness (l : Launch) (D : va_G) (K : Nat → ClassId) (E0 : Nat) (B : Nat × Nat) (A0 : Nat → Prop) (ao o : Nat) (a1 : Int32) (S : CS) (ov : Nat → Int64) (P : Int32 → (Nat → Int64) → CS → Prop) (hk : kdC S o = 14) (h : w_X11_badness B o a1 S (fun r S' => P 0 (va_up ov 0 (Int32.toInt64 r)) S') (fun E S' => (E = "java/lang/IllegalArgumentException" ∧ P 1 ov S') ∨ (E = "java/lang/IllegalStateException" ∧ P 2 ov S'))) : MetW l yL_badness cL_badness 4 [(0, 9, 12, 13), (0, 9, 15, 15)] 13 [.ref o, .int a1, .ref ao] P D K E0 B A0 ao S ov := by
  refine gw_start (by decide) rfl (Nat.le_of_ble_eq_true rfl) (fun p e s m args below meth c C htab Em => ?_)
  refine gw_aloadn C 2 2 dL_badness_0 rfl rfl ?_
  refine gw_iconst C 0 dL_badness_1 (by decide) ?_
  refine gw_aloadn C 0 0 dL_badness_2 rfl rfl ?_
  refine gw_iloadn C 1 1 dL_badness_3 rfl rfl ?_
  refine gw_call C (y := yX11_badness) (as := [.int a1]) rfl (by decide) (by decide) (c_X11_badness l D K E0 B A0 o a1 S _ _ h) hk_X11_badness rfl vl_L_140 kc_X11_badness (isC_of hk (by decide)) dL_badness_4 (Nat.le_of_ble_eq_true rfl) ?_ ?_
  · rintro E S' hx
    rcases hx with ⟨rfl, h⟩ | ⟨rfl, h⟩
    · refine gw_catch C htab [] (0, 9, 12, 13) [(0, 9, 15, 15)] rfl (fun _ h9 => absurd h9 List.not_mem_nil) (by decide +kernel) (by decide) (by decide) v_i508 n_i522 (fun q => ?_)
      refine gw_astoren C 3 [(3, .ref q), (0, .ref o), (1, .int a1), (2, .ref ao)] dL_badness_12 rfl (by decide) rfl ?_
      refine gw_iconst C 1 dL_badness_13 (by decide) ?_
      exact gw_iret C Em dL_badness_14 h
    · refine gw_catch C htab [(0, 9, 12, 13)] (0, 9, 15, 15) [] rfl (List.forall_mem_cons.mpr ⟨⟨by decide, "java/lang/IllegalArgumentException", v_i508, by decide +kernel, by decide +kernel⟩, fun _ h9 => absurd h9 List.not_mem_nil⟩) (by decide +kernel) (by decide) (by decide) v_i509 n_i591 (fun q => ?_)
      refine gw_astoren C 3 [(3, .ref q), (0, .ref o), (1, .int a1), (2, .ref ao)] dL_badness_15 rfl (by decide) rfl ?_
      refine gw_iconst C 2 dL_badness_16 (by decide) ?_
      exact gw_iret C Em dL_badness_17 h
  · rintro v S' ⟨r, rfl, h⟩ _
    refine gw_i2l C dL_badness_7 ?_
    refine gw_out C dL_badness_8 ?_
    refine gw_goto C 18 dL_badness_9 (by decide) ?_
    refine gw_iconst C 0 dL_badness_18 (by decide) ?_
    exact gw_iret C Em dL_badness_19 h
theorem k_pages (l : Launch) (D : va_G) (K : Nat → ClassId) (E0 : Nat) (B : Nat × Nat) (A0 : Nat → Prop) (ao o : Nat) (a1 : Int32) (S : CS) (ov : Nat → Int64) (P : Int32 → (Nat → Int64) → CS → Prop) (hk : kdC S o = 14) (h : w_X11_pages B o a1 S (fun r S' => P 0 (va_up ov 0 (Int32.toInt64 r)) S') (fun E S' => (E = "java/lang/IllegalArgumentException" ∧ P 1 ov S') ∨ (E = "java/lang/IllegalStateException" ∧ P 2 ov S'))) : MetW l yL_pages cL_pages 4 [(0, 9, 12, 13), (0, 9, 15, 15)] 13 [.ref o, .int a1, .ref ao] P D K E0 B A0 ao S ov := by
  refine gw_start (by decide) rfl (Nat.le_of_ble_eq_true rfl) (fun p e s m args below meth c C htab Em => ?_)
  refine gw_aloadn C 2 2 dL_pages_0 rfl rfl ?_
  refine gw_iconst C 0 dL_pages_1 (by decide) ?_
  refine gw_aloadn C 0 0 dL_pages_2 rfl rfl ?_
  refine gw_iloadn C 1 1 dL_pages_3 rfl rfl ?_
  refine gw_call C (y := yX11_pages) (as := [.int a1]) rfl (by decide) (by decide) (c_X11_pages l D K E0 B A0 o a1 S _ _ h) hk_X11_pages rfl vl_L_143 kc_X11_pages (isC_of hk (by decide)) dL_pages_4 (Nat.le_of_ble_eq_true rfl) ?_ ?_
  · rintro E S' hx
    rcases hx with ⟨rfl, h⟩ | ⟨rfl, h⟩
    · refine gw_catch C htab [] (0, 9, 12, 13) [(0, 9, 15, 15)] rfl (fun _ h9 => absurd h9 List.not_mem_nil) (by decide +kernel) (by decide) (by decide) v_i508 n_i522 (fun q => ?_)
      refine gw_astoren C 3 [(3, .ref q), (0, .ref o), (1, .int a1), (2, .ref ao)] dL_pages_12 rfl (by decide) rfl ?_
      refine gw_iconst C 1 dL_pages_13 (by decide) ?_
      exact gw_iret C Em dL_pages_14 h
    · refine gw_catch C htab [(0, 9, 12, 13)] (0, 9, 15, 15) [] rfl (List.forall_mem_cons.mpr ⟨⟨by decide, "java/lang/IllegalArgumentException", v_i508, by decide +kernel, by decide +kernel⟩, fun _ h9 => absurd h9 List.not_mem_nil⟩) (by decide +kernel) (by decide) (by decide) v_i509 n_i591 (fun q => ?_)
      refine gw_astoren C 3 [(3, .ref q), (0, .ref o), (1, .int a1), (2, .ref ao)] dL_pages_15 rfl (by decide) rfl ?_
      refine gw_iconst C 2 dL_pages_16 (by decide) ?_
      exact gw_iret C Em dL_pages_17 h
  · rintro v S' ⟨r, rfl, h⟩ _
    refine gw_i2l C dL_pages_7 ?_
    refine gw_out C dL_pages_8 ?_
    refine gw_goto C 18 dL_pages_9 (by decide) ?_
    refine gw_iconst C 0 dL_pages_18 (by decide) ?_
    exact gw_iret C Em dL_pages_19 h
theorem k_pageLines (l : Launch) (D : va_G) (K : Nat → ClassId) (E0 : Nat) (B : Nat × Nat) (A0 : Nat → Prop) (ao o : Nat) (a1 : Int32) (a2 : Int32) (S : CS) (ov : Nat → Int64) (P : Int32 → (Nat → Int64) → CS → Prop) (hk : kdC S o = 14) (h : w_X11_pageLines B o a1 a2 S (fun r S' => P 0 (va_up ov 0 (Int32.toInt64 r)) S') (fun E S' => (E = "java/lang/IllegalArgumentException" ∧ P 1 ov S') ∨ (E = "java/lang/IllegalStateException" ∧ P 2 ov S') ∨ (E = "java/lang/IndexOutOfBoundsException" ∧ P 3 ov S'))) : MetW l yL_pageLines cL_pageLines 5 [(0, 10, 13, 13), (0, 10, 17, 15), (0, 10, 21, 21)] 13 [.ref o, .int a1, .int a2, .ref ao] P D K E0 B A0 ao S ov := by
  refine gw_start (by decide) rfl (Nat.le_of_ble_eq_true rfl) (fun p e s m args below meth c C htab Em => ?_)
  refine gw_aloadn C 3 3 dL_pageLines_0 rfl rfl ?_
  refine gw_iconst C 0 dL_pageLines_1 (by decide) ?_
  refine gw_aloadn C 0 0 dL_pageLines_2 rfl rfl ?_
  refine gw_iloadn C 1 1 dL_pageLines_3 rfl rfl ?_
  refine gw_iloadn C 2 2 dL_pageLines_4 rfl rfl ?_
  refine gw_call C (y := yX11_pageLines) (as := [.int a1, .int a2]) rfl (by decide) (by decide) (c_X11_pageLines l D K E0 B A0 o a1 a2 S _ _ h) hk_X11_pageLines rfl vl_L_146 kc_X11_pageLines (isC_of hk (by decide)) dL_pageLines_5 (Nat.le_of_ble_eq_true rfl) ?_ ?_
  · rintro E S' hx
    rcases hx with ⟨rfl, h⟩ | ⟨rfl, h⟩ | ⟨rfl, h⟩
    · refine gw_catch C htab [] (0, 10, 13, 13) [(0, 10, 17, 15), (0, 10, 21, 21)] rfl (fun _ h9 => absurd h9 List.not_mem_nil) (by decide +kernel) (by decide) (by decide) v_i508 n_i522 (fun q => ?_)
      refine gw_astore C [(4, .ref q), (0, .ref o), (1, .int a1), (2, .int a2), (3, .ref ao)] dL_pageLines_13 (by decide) rfl ?_
      refine gw_iconst C 1 dL_pageLines_15 (by decide) ?_
      exact gw_iret C Em dL_pageLines_16 h
    · refine gw_catch C htab [(0, 10, 13, 13)] (0, 10, 17, 15) [(0, 10, 21, 21)] rfl (List.forall_mem_cons.mpr ⟨⟨by decide, "java/lang/IllegalArgumentException", v_i508, by decide +kernel, by decide +kernel⟩, fun _ h9 => absurd h9 List.not_mem_nil⟩) (by decide +kernel) (by decide) (by decide) v_i509 n_i591 (fun q => ?_)
      refine gw_astore C [(4, .ref q), (0, .ref o), (1, .int a1), (2, .int a2), (3, .ref ao)] dL_pageLines_17 (by decide) rfl ?_
      refine gw_iconst C 2 dL_pageLines_19 (by decide) ?_
      exact gw_iret C Em dL_pageLines_20 h
    · refine gw_catch C htab [(0, 10, 13, 13), (0, 10, 17, 15)] (0, 10, 21, 21) [] rfl (List.forall_mem_cons.mpr ⟨⟨by decide, "java/lang/IllegalArgumentException", v_i508, by decide +kernel, by decide +kernel⟩, List.forall_mem_cons.mpr ⟨⟨by decide, "java/lang/IllegalStateException", v_i509, by decide +kernel, by decide +kernel⟩, fun _ h9 => absurd h9 List.not_mem_nil⟩⟩) (by decide +kernel) (by decide) (by decide) v_i657 n_i671 (fun q => ?_)
      refine gw_astore C [(4, .ref q), (0, .ref o), (1, .int a1), (2, .int a2), (3, .ref ao)] dL_pageLines_21 (by decide) rfl ?_
      refine gw_iconst C 3 dL_pageLines_23 (by decide) ?_
      exact gw_iret C Em dL_pageLines_24 h
  · rintro v S' ⟨r, rfl, h⟩ _
    refine gw_i2l C dL_pageLines_8 ?_
    refine gw_out C dL_pageLines_9 ?_
    refine gw_goto C 25 dL_pageLines_10 (by decide) ?_
    refine gw_iconst C 0 dL_pageLines_25 (by decide) ?_
    exact gw_iret C Em dL_pageLines_26 h
theorem k_pageOf (l : Launch) (D : va_G) (K : Nat → ClassId) (E0 : Nat) (B : Nat × Nat) (A0 : Nat → Prop) (ao o : Nat) (a1 : Int32) (a2 : Int32) (S : CS) (ov : Nat → Int64) (P : Int32 → (Nat → Int64) → CS → Prop) (hk : kdC S o = 14) (h : w_X11_pageOf B o a1 a2 S (fun r S' => P 0 (va_up ov 0 (Int32.toInt64 r)) S') (fun E S' => (E = "java/lang/IllegalArgumentException" ∧ P 1 ov S') ∨ (E = "java/lang/IllegalStateException" ∧ P 2 ov S') ∨ (E = "java/lang/IndexOutOfBoundsException" ∧ P 3 ov S'))) : MetW l yL_pageOf cL_pageOf 5 [(0, 10, 13, 13), (0, 10, 17, 15), (0, 10, 21, 21)] 13 [.ref o, .int a1, .int a2, .ref ao] P D K E0 B A0 ao S ov := by
  refine gw_start (by decide) rfl (Nat.le_of_ble_eq_true rfl) (fun p e s m args below meth c C htab Em => ?_)
  refine gw_aloadn C 3 3 dL_pageOf_0 rfl rfl ?_
  refine gw_iconst C 0 dL_pageOf_1 (by decide) ?_
  refine gw_aloadn C 0 0 dL_pageOf_2 rfl rfl ?_
  refine gw_iloadn C 1 1 dL_pageOf_3 rfl rfl ?_
  refine gw_iloadn C 2 2 dL_pageOf_4 rfl rfl ?_
  refine gw_call C (y := yX11_pageOf) (as := [.int a1, .int a2]) rfl (by decide) (by decide) (c_X11_pageOf l D K E0 B A0 o a1 a2 S _ _ h) hk_X11_pageOf rfl vl_L_149 kc_X11_pageOf (isC_of hk (by decide)) dL_pageOf_5 (Nat.le_of_ble_eq_true rfl) ?_ ?_
  · rintro E S' hx
    rcases hx with ⟨rfl, h⟩ | ⟨rfl, h⟩ | ⟨rfl, h⟩
    · refine gw_catch C htab [] (0, 10, 13, 13) [(0, 10, 17, 15), (0, 10, 21, 21)] rfl (fun _ h9 => absurd h9 List.not_mem_nil) (by decide +kernel) (by decide) (by decide) v_i508 n_i522 (fun q => ?_)
      refine gw_astore C [(4, .ref q), (0, .ref o), (1, .int a1), (2, .int a2), (3, .ref ao)] dL_pageOf_13 (by decide) rfl ?_
      refine gw_iconst C 1 dL_pageOf_15 (by decide) ?_
      exact gw_iret C Em dL_pageOf_16 h
    · refine gw_catch C htab [(0, 10, 13, 13)] (0, 10, 17, 15) [(0, 10, 21, 21)] rfl (List.forall_mem_cons.mpr ⟨⟨by decide, "java/lang/IllegalArgumentException", v_i508, by decide +kernel, by decide +kernel⟩, fun _ h9 => absurd h9 List.not_mem_nil⟩) (by decide +kernel) (by decide) (by decide) v_i509 n_i591 (fun q => ?_)
      refine gw_astore C [(4, .ref q), (0, .ref o), (1, .int a1), (2, .int a2), (3, .ref ao)] dL_pageOf_17 (by decide) rfl ?_
      refine gw_iconst C 2 dL_pageOf_19 (by decide) ?_
      exact gw_iret C Em dL_pageOf_20 h
    · refine gw_catch C htab [(0, 10, 13, 13), (0, 10, 17, 15)] (0, 10, 21, 21) [] rfl (List.forall_mem_cons.mpr ⟨⟨by decide, "java/lang/IllegalArgumentException", v_i508, by decide +kernel, by decide +kernel⟩, List.forall_mem_cons.mpr ⟨⟨by decide, "java/lang/IllegalStateException", v_i509, by decide +kernel, by decide +kernel⟩, fun _ h9 => absurd h9 List.not_mem_nil⟩⟩) (by decide +kernel) (by decide) (by decide) v_i657 n_i671 (fun q => ?_)
      refine gw_astore C [(4, .ref q), (0, .ref o), (1, .int a1), (2, .int a2), (3, .ref ao)] dL_pageOf_21 (by decide) rfl ?_
      refine gw_iconst C 3 dL_pageOf_23 (by decide) ?_
      exact gw_iret C Em dL_pageOf_24 h
  · rintro v S' ⟨r, rfl, h⟩ _
    refine gw_i2l C dL_pageOf_8 ?_
    refine gw_out C dL_pageOf_9 ?_
    refine gw_goto C 25 dL_pageOf_10 (by decide) ?_
    refine gw_iconst C 0 dL_pageOf_25 (by decide) ?_
    exact gw_iret C Em dL_pageOf_26 h
theorem k_pageTurns (l : Launch) (D : va_G) (K : Nat → ClassId) (E0 : Nat) (B : Nat × Nat) (A0 : Nat → Prop) (ao o : Nat) (a1 : Int32) (S : CS) (ov : Nat → Int64) (P : Int32 → (Nat → Int64) → CS → Prop) (hk : kdC S o = 14) (h : w_X11_pageTurns B o a1 S (fun r S' => P 0 (va_up ov 0 (Int32.toInt64 r)) S') (fun E S' => (E = "java/lang/IllegalArgumentException" ∧ P 1 ov S') ∨ (E = "java/lang/IllegalStateException" ∧ P 2 ov S'))) : MetW l yL_pageTurns cL_pageTurns 4 [(0, 9, 12, 13), (0, 9, 15, 15)] 13 [.ref o, .int a1, .ref ao] P D K E0 B A0 ao S ov := by
  refine gw_start (by decide) rfl (Nat.le_of_ble_eq_true rfl) (fun p e s m args below meth c C htab Em => ?_)
  refine gw_aloadn C 2 2 dL_pageTurns_0 rfl rfl ?_
  refine gw_iconst C 0 dL_pageTurns_1 (by decide) ?_
  refine gw_aloadn C 0 0 dL_pageTurns_2 rfl rfl ?_
  refine gw_iloadn C 1 1 dL_pageTurns_3 rfl rfl ?_
  refine gw_call C (y := yX11_pageTurns) (as := [.int a1]) rfl (by decide) (by decide) (c_X11_pageTurns l D K E0 B A0 o a1 S _ _ h) hk_X11_pageTurns rfl vl_L_152 kc_X11_pageTurns (isC_of hk (by decide)) dL_pageTurns_4 (Nat.le_of_ble_eq_true rfl) ?_ ?_
  · rintro E S' hx
    rcases hx with ⟨rfl, h⟩ | ⟨rfl, h⟩
    · refine gw_catch C htab [] (0, 9, 12, 13) [(0, 9, 15, 15)] rfl (fun _ h9 => absurd h9 List.not_mem_nil) (by decide +kernel) (by decide) (by decide) v_i508 n_i522 (fun q => ?_)
      refine gw_astoren C 3 [(3, .ref q), (0, .ref o), (1, .int a1), (2, .ref ao)] dL_pageTurns_12 rfl (by decide) rfl ?_
      refine gw_iconst C 1 dL_pageTurns_13 (by decide) ?_
      exact gw_iret C Em dL_pageTurns_14 h
    · refine gw_catch C htab [(0, 9, 12, 13)] (0, 9, 15, 15) [] rfl (List.forall_mem_cons.mpr ⟨⟨by decide, "java/lang/IllegalArgumentException", v_i508, by decide +kernel, by decide +kernel⟩, fun _ h9 => absurd h9 List.not_mem_nil⟩) (by decide +kernel) (by decide) (by decide) v_i509 n_i591 (fun q => ?_)
      refine gw_astoren C 3 [(3, .ref q), (0, .ref o), (1, .int a1), (2, .ref ao)] dL_pageTurns_15 rfl (by decide) rfl ?_
      refine gw_iconst C 2 dL_pageTurns_16 (by decide) ?_
      exact gw_iret C Em dL_pageTurns_17 h
  · rintro v S' ⟨r, rfl, h⟩ _
    refine gw_i2l C dL_pageTurns_7 ?_
    refine gw_out C dL_pageTurns_8 ?_
    refine gw_goto C 18 dL_pageTurns_9 (by decide) ?_
    refine gw_iconst C 0 dL_pageTurns_18 (by decide) ?_
    exact gw_iret C Em dL_pageTurns_19 h
theorem k_turnBar (l : Launch) (D : va_G) (K : Nat → ClassId) (E0 : Nat) (B : Nat × Nat) (A0 : Nat → Prop) (ao o : Nat) (a1 : Int32) (a2 : Int32) (S : CS) (ov : Nat → Int64) (P : Int32 → (Nat → Int64) → CS → Prop) (hk : kdC S o = 14) (h : w_X11_turnBar B o a1 a2 S (fun r S' => P 0 (va_up ov 0 (Int32.toInt64 r)) S') (fun E S' => (E = "java/lang/IllegalArgumentException" ∧ P 1 ov S') ∨ (E = "java/lang/IllegalStateException" ∧ P 2 ov S') ∨ (E = "java/lang/IndexOutOfBoundsException" ∧ P 3 ov S'))) : MetW l yL_turnBar cL_turnBar 5 [(0, 10, 13, 13), (0, 10, 17, 15), (0, 10, 21, 21)] 13 [.ref o, .int a1, .int a2, .ref ao] P D K E0 B A0 ao S ov := by
  refine gw_start (by decide) rfl (Nat.le_of_ble_eq_true rfl) (fun p e s m args below meth c C htab Em => ?_)
  refine gw_aloadn C 3 3 dL_turnBar_0 rfl rfl ?_
  refine gw_iconst C 0 dL_turnBar_1 (by decide) ?_
  refine gw_aloadn C 0 0 dL_turnBar_2 rfl rfl ?_
  refine gw_iloadn C 1 1 dL_turnBar_3 rfl rfl ?_
  refine gw_iloadn C 2 2 dL_turnBar_4 rfl rfl ?_
  refine gw_call C (y := yX11_turnBar) (as := [.int a1, .int a2]) rfl (by decide) (by decide) (c_X11_turnBar l D K E0 B A0 o a1 a2 S _ _ h) hk_X11_turnBar rfl vl_L_155 kc_X11_turnBar (isC_of hk (by decide)) dL_turnBar_5 (Nat.le_of_ble_eq_true rfl) ?_ ?_
  · rintro E S' hx
    rcases hx with ⟨rfl, h⟩ | ⟨rfl, h⟩ | ⟨rfl, h⟩
    · refine gw_catch C htab [] (0, 10, 13, 13) [(0, 10, 17, 15), (0, 10, 21, 21)] rfl (fun _ h9 => absurd h9 List.not_mem_nil) (by decide +kernel) (by decide) (by decide) v_i508 n_i522 (fun q => ?_)
      refine gw_astore C [(4, .ref q), (0, .ref o), (1, .int a1), (2, .int a2), (3, .ref ao)] dL_turnBar_13 (by decide) rfl ?_
      refine gw_iconst C 1 dL_turnBar_15 (by decide) ?_
      exact gw_iret C Em dL_turnBar_16 h
    · refine gw_catch C htab [(0, 10, 13, 13)] (0, 10, 17, 15) [(0, 10, 21, 21)] rfl (List.forall_mem_cons.mpr ⟨⟨by decide, "java/lang/IllegalArgumentException", v_i508, by decide +kernel, by decide +kernel⟩, fun _ h9 => absurd h9 List.not_mem_nil⟩) (by decide +kernel) (by decide) (by decide) v_i509 n_i591 (fun q => ?_)
      refine gw_astore C [(4, .ref q), (0, .ref o), (1, .int a1), (2, .int a2), (3, .ref ao)] dL_turnBar_17 (by decide) rfl ?_
      refine gw_iconst C 2 dL_turnBar_19 (by decide) ?_
      exact gw_iret C Em dL_turnBar_20 h
    · refine gw_catch C htab [(0, 10, 13, 13), (0, 10, 17, 15)] (0, 10, 21, 21) [] rfl (List.forall_mem_cons.mpr ⟨⟨by decide, "java/lang/IllegalArgumentException", v_i508, by decide +kernel, by decide +kernel⟩, List.forall_mem_cons.mpr ⟨⟨by decide, "java/lang/IllegalStateException", v_i509, by decide +kernel, by decide +kernel⟩, fun _ h9 => absurd h9 List.not_mem_nil⟩⟩) (by decide +kernel) (by decide) (by decide) v_i657 n_i671 (fun q => ?_)
      refine gw_astore C [(4, .ref q), (0, .ref o), (1, .int a1), (2, .int a2), (3, .ref ao)] dL_turnBar_21 (by decide) rfl ?_
      refine gw_iconst C 3 dL_turnBar_23 (by decide) ?_
      exact gw_iret C Em dL_turnBar_24 h
  · rintro v S' ⟨r, rfl, h⟩ _
    refine gw_i2l C dL_turnBar_8 ?_
    refine gw_out C dL_turnBar_9 ?_
    refine gw_goto C 25 dL_turnBar_10 (by decide) ?_
    refine gw_iconst C 0 dL_turnBar_25 (by decide) ?_
    exact gw_iret C Em dL_turnBar_26 h
theorem k_turnTime (l : Launch) (D : va_G) (K : Nat → ClassId) (E0 : Nat) (B : Nat × Nat) (A0 : Nat → Prop) (ao o : Nat) (a1 : Int32) (a2 : Int32) (S : CS) (ov : Nat → Int64) (P : Int32 → (Nat → Int64) → CS → Prop) (hk : kdC S o = 14) (h : w_X11_turnTime B o a1 a2 S (fun r S' => P 0 (va_up ov 0 (Int32.toInt64 r)) S') (fun E S' => (E = "java/lang/IllegalArgumentException" ∧ P 1 ov S') ∨ (E = "java/lang/IllegalStateException" ∧ P 2 ov S') ∨ (E = "java/lang/IndexOutOfBoundsException" ∧ P 3 ov S'))) : MetW l yL_turnTime cL_turnTime 5 [(0, 10, 13, 13), (0, 10, 17, 15), (0, 10, 21, 21)] 13 [.ref o, .int a1, .int a2, .ref ao] P D K E0 B A0 ao S ov := by
  refine gw_start (by decide) rfl (Nat.le_of_ble_eq_true rfl) (fun p e s m args below meth c C htab Em => ?_)
  refine gw_aloadn C 3 3 dL_turnTime_0 rfl rfl ?_
  refine gw_iconst C 0 dL_turnTime_1 (by decide) ?_
  refine gw_aloadn C 0 0 dL_turnTime_2 rfl rfl ?_
  refine gw_iloadn C 1 1 dL_turnTime_3 rfl rfl ?_
  refine gw_iloadn C 2 2 dL_turnTime_4 rfl rfl ?_
  refine gw_call C (y := yX11_turnTime) (as := [.int a1, .int a2]) rfl (by decide) (by decide) (c_X11_turnTime l D K E0 B A0 o a1 a2 S _ _ h) hk_X11_turnTime rfl vl_L_158 kc_X11_turnTime (isC_of hk (by decide)) dL_turnTime_5 (Nat.le_of_ble_eq_true rfl) ?_ ?_
  · rintro E S' hx
    rcases hx with ⟨rfl, h⟩ | ⟨rfl, h⟩ | ⟨rfl, h⟩
    · refine gw_catch C htab [] (0, 10, 13, 13) [(0, 10, 17, 15), (0, 10, 21, 21)] rfl (fun _ h9 => absurd h9 List.not_mem_nil) (by decide +kernel) (by decide) (by decide) v_i508 n_i522 (fun q => ?_)
      refine gw_astore C [(4, .ref q), (0, .ref o), (1, .int a1), (2, .int a2), (3, .ref ao)] dL_turnTime_13 (by decide) rfl ?_
      refine gw_iconst C 1 dL_turnTime_15 (by decide) ?_
      exact gw_iret C Em dL_turnTime_16 h
    · refine gw_catch C htab [(0, 10, 13, 13)] (0, 10, 17, 15) [(0, 10, 21, 21)] rfl (List.forall_mem_cons.mpr ⟨⟨by decide, "java/lang/IllegalArgumentException", v_i508, by decide +kernel, by decide +kernel⟩, fun _ h9 => absurd h9 List.not_mem_nil⟩) (by decide +kernel) (by decide) (by decide) v_i509 n_i591 (fun q => ?_)
      refine gw_astore C [(4, .ref q), (0, .ref o), (1, .int a1), (2, .int a2), (3, .ref ao)] dL_turnTime_17 (by decide) rfl ?_
      refine gw_iconst C 2 dL_turnTime_19 (by decide) ?_
      exact gw_iret C Em dL_turnTime_20 h
    · refine gw_catch C htab [(0, 10, 13, 13), (0, 10, 17, 15)] (0, 10, 21, 21) [] rfl (List.forall_mem_cons.mpr ⟨⟨by decide, "java/lang/IllegalArgumentException", v_i508, by decide +kernel, by decide +kernel⟩, List.forall_mem_cons.mpr ⟨⟨by decide, "java/lang/IllegalStateException", v_i509, by decide +kernel, by decide +kernel⟩, fun _ h9 => absurd h9 List.not_mem_nil⟩⟩) (by decide +kernel) (by decide) (by decide) v_i657 n_i671 (fun q => ?_)
      refine gw_astore C [(4, .ref q), (0, .ref o), (1, .int a1), (2, .int a2), (3, .ref ao)] dL_turnTime_21 (by decide) rfl ?_
      refine gw_iconst C 3 dL_turnTime_23 (by decide) ?_
      exact gw_iret C Em dL_turnTime_24 h
  · rintro v S' ⟨r, rfl, h⟩ _
    refine gw_i2l C dL_turnTime_8 ?_
    refine gw_out C dL_turnTime_9 ?_
    refine gw_goto C 25 dL_turnTime_10 (by decide) ?_
    refine gw_iconst C 0 dL_turnTime_25 (by decide) ?_
    exact gw_iret C Em dL_turnTime_26 h
theorem k_turnRest (l : Launch) (D : va_G) (K : Nat → ClassId) (E0 : Nat) (B : Nat × Nat) (A0 : Nat → Prop) (ao o : Nat) (a1 : Int32) (a2 : Int32) (S : CS) (ov : Nat → Int64) (P : Int32 → (Nat → Int64) → CS → Prop) (hk : kdC S o = 14) (h : w_X11_turnRest B o a1 a2 S (fun r S' => P 0 (va_up ov 0 (Int32.toInt64 r)) S') (fun E S' => (E = "java/lang/IllegalArgumentException" ∧ P 1 ov S') ∨ (E = "java/lang/IllegalStateException" ∧ P 2 ov S') ∨ (E = "java/lang/IndexOutOfBoundsException" ∧ P 3 ov S'))) : MetW l yL_turnRest cL_turnRest 5 [(0, 10, 13, 13), (0, 10, 17, 15), (0, 10, 21, 21)] 13 [.ref o, .int a1, .int a2, .ref ao] P D K E0 B A0 ao S ov := by
  refine gw_start (by decide) rfl (Nat.le_of_ble_eq_true rfl) (fun p e s m args below meth c C htab Em => ?_)
  refine gw_aloadn C 3 3 dL_turnRest_0 rfl rfl ?_
  refine gw_iconst C 0 dL_turnRest_1 (by decide) ?_
  refine gw_aloadn C 0 0 dL_turnRest_2 rfl rfl ?_
  refine gw_iloadn C 1 1 dL_turnRest_3 rfl rfl ?_
  refine gw_iloadn C 2 2 dL_turnRest_4 rfl rfl ?_
  refine gw_call C (y := yX11_turnRest) (as := [.int a1, .int a2]) rfl (by decide) (by decide) (c_X11_turnRest l D K E0 B A0 o a1 a2 S _ _ h) hk_X11_turnRest rfl vl_L_161 kc_X11_turnRest (isC_of hk (by decide)) dL_turnRest_5 (Nat.le_of_ble_eq_true rfl) ?_ ?_
  · rintro E S' hx
    rcases hx with ⟨rfl, h⟩ | ⟨rfl, h⟩ | ⟨rfl, h⟩
    · refine gw_catch C htab [] (0, 10, 13, 13) [(0, 10, 17, 15), (0, 10, 21, 21)] rfl (fun _ h9 => absurd h9 List.not_mem_nil) (by decide +kernel) (by decide) (by decide) v_i508 n_i522 (fun q => ?_)
      refine gw_astore C [(4, .ref q), (0, .ref o), (1, .int a1), (2, .int a2), (3, .ref ao)] dL_turnRest_13 (by decide) rfl ?_
      refine gw_iconst C 1 dL_turnRest_15 (by decide) ?_
      exact gw_iret C Em dL_turnRest_16 h
    · refine gw_catch C htab [(0, 10, 13, 13)] (0, 10, 17, 15) [(0, 10, 21, 21)] rfl (List.forall_mem_cons.mpr ⟨⟨by decide, "java/lang/IllegalArgumentException", v_i508, by decide +kernel, by decide +kernel⟩, fun _ h9 => absurd h9 List.not_mem_nil⟩) (by decide +kernel) (by decide) (by decide) v_i509 n_i591 (fun q => ?_)
      refine gw_astore C [(4, .ref q), (0, .ref o), (1, .int a1), (2, .int a2), (3, .ref ao)] dL_turnRest_17 (by decide) rfl ?_
      refine gw_iconst C 2 dL_turnRest_19 (by decide) ?_
      exact gw_iret C Em dL_turnRest_20 h
    · refine gw_catch C htab [(0, 10, 13, 13), (0, 10, 17, 15)] (0, 10, 21, 21) [] rfl (List.forall_mem_cons.mpr ⟨⟨by decide, "java/lang/IllegalArgumentException", v_i508, by decide +kernel, by decide +kernel⟩, List.forall_mem_cons.mpr ⟨⟨by decide, "java/lang/IllegalStateException", v_i509, by decide +kernel, by decide +kernel⟩, fun _ h9 => absurd h9 List.not_mem_nil⟩⟩) (by decide +kernel) (by decide) (by decide) v_i657 n_i671 (fun q => ?_)
      refine gw_astore C [(4, .ref q), (0, .ref o), (1, .int a1), (2, .int a2), (3, .ref ao)] dL_turnRest_21 (by decide) rfl ?_
      refine gw_iconst C 3 dL_turnRest_23 (by decide) ?_
      exact gw_iret C Em dL_turnRest_24 h
  · rintro v S' ⟨r, rfl, h⟩ _
    refine gw_i2l C dL_turnRest_8 ?_
    refine gw_out C dL_turnRest_9 ?_
    refine gw_goto C 25 dL_turnRest_10 (by decide) ?_
    refine gw_iconst C 0 dL_turnRest_25 (by decide) ?_
    exact gw_iret C Em dL_turnRest_26 h
theorem k_badTurns (l : Launch) (D : va_G) (K : Nat → ClassId) (E0 : Nat) (B : Nat × Nat) (A0 : Nat → Prop) (ao o : Nat) (a1 : Int32) (S : CS) (ov : Nat → Int64) (P : Int32 → (Nat → Int64) → CS → Prop) (hk : kdC S o = 14) (h : w_X11_badTurns B o a1 S (fun r S' => P 0 (va_up ov 0 (Int32.toInt64 r)) S') (fun E S' => (E = "java/lang/IllegalArgumentException" ∧ P 1 ov S') ∨ (E = "java/lang/IllegalStateException" ∧ P 2 ov S'))) : MetW l yL_badTurns cL_badTurns 4 [(0, 9, 12, 13), (0, 9, 15, 15)] 13 [.ref o, .int a1, .ref ao] P D K E0 B A0 ao S ov := by
  refine gw_start (by decide) rfl (Nat.le_of_ble_eq_true rfl) (fun p e s m args below meth c C htab Em => ?_)
  refine gw_aloadn C 2 2 dL_badTurns_0 rfl rfl ?_
  refine gw_iconst C 0 dL_badTurns_1 (by decide) ?_
  refine gw_aloadn C 0 0 dL_badTurns_2 rfl rfl ?_
  refine gw_iloadn C 1 1 dL_badTurns_3 rfl rfl ?_
  refine gw_call C (y := yX11_badTurns) (as := [.int a1]) rfl (by decide) (by decide) (c_X11_badTurns l D K E0 B A0 o a1 S _ _ h) hk_X11_badTurns rfl vl_L_164 kc_X11_badTurns (isC_of hk (by decide)) dL_badTurns_4 (Nat.le_of_ble_eq_true rfl) ?_ ?_
  · rintro E S' hx
    rcases hx with ⟨rfl, h⟩ | ⟨rfl, h⟩
    · refine gw_catch C htab [] (0, 9, 12, 13) [(0, 9, 15, 15)] rfl (fun _ h9 => absurd h9 List.not_mem_nil) (by decide +kernel) (by decide) (by decide) v_i508 n_i522 (fun q => ?_)
      refine gw_astoren C 3 [(3, .ref q), (0, .ref o), (1, .int a1), (2, .ref ao)] dL_badTurns_12 rfl (by decide) rfl ?_
      refine gw_iconst C 1 dL_badTurns_13 (by decide) ?_
      exact gw_iret C Em dL_badTurns_14 h
    · refine gw_catch C htab [(0, 9, 12, 13)] (0, 9, 15, 15) [] rfl (List.forall_mem_cons.mpr ⟨⟨by decide, "java/lang/IllegalArgumentException", v_i508, by decide +kernel, by decide +kernel⟩, fun _ h9 => absurd h9 List.not_mem_nil⟩) (by decide +kernel) (by decide) (by decide) v_i509 n_i591 (fun q => ?_)
      refine gw_astoren C 3 [(3, .ref q), (0, .ref o), (1, .int a1), (2, .ref ao)] dL_badTurns_15 rfl (by decide) rfl ?_
      refine gw_iconst C 2 dL_badTurns_16 (by decide) ?_
      exact gw_iret C Em dL_badTurns_17 h
  · rintro v S' ⟨r, rfl, h⟩ _
    refine gw_i2l C dL_badTurns_7 ?_
    refine gw_out C dL_badTurns_8 ?_
    refine gw_goto C 18 dL_badTurns_9 (by decide) ?_
    refine gw_iconst C 0 dL_badTurns_18 (by decide) ?_
    exact gw_iret C Em dL_badTurns_19 h
theorem k_sheets (l : Launch) (D : va_G) (K : Nat → ClassId) (E0 : Nat) (B : Nat × Nat) (A0 : Nat → Prop) (ao o : Nat) (a1 : Int32) (S : CS) (ov : Nat → Int64) (P : Int32 → (Nat → Int64) → CS → Prop) (hk : kdC S o = 14) (h : w_X11_sheets B o a1 S (fun r S' => P 0 (va_up ov 0 (Int32.toInt64 r)) S') (fun E S' => (E = "java/lang/IllegalArgumentException" ∧ P 1 ov S') ∨ (E = "java/lang/IllegalStateException" ∧ P 2 ov S'))) : MetW l yL_sheets cL_sheets 4 [(0, 9, 12, 13), (0, 9, 15, 15)] 13 [.ref o, .int a1, .ref ao] P D K E0 B A0 ao S ov := by
  refine gw_start (by decide) rfl (Nat.le_of_ble_eq_true rfl) (fun p e s m args below meth c C htab Em => ?_)
  refine gw_aloadn C 2 2 dL_sheets_0 rfl rfl ?_
  refine gw_iconst C 0 dL_sheets_1 (by decide) ?_
  refine gw_aloadn C 0 0 dL_sheets_2 rfl rfl ?_
  refine gw_iloadn C 1 1 dL_sheets_3 rfl rfl ?_
  refine gw_call C (y := yX11_sheets) (as := [.int a1]) rfl (by decide) (by decide) (c_X11_sheets l D K E0 B A0 o a1 S _ _ h) hk_X11_sheets rfl vl_L_167 kc_X11_sheets (isC_of hk (by decide)) dL_sheets_4 (Nat.le_of_ble_eq_true rfl) ?_ ?_
  · rintro E S' hx
    rcases hx with ⟨rfl, h⟩ | ⟨rfl, h⟩
    · refine gw_catch C htab [] (0, 9, 12, 13) [(0, 9, 15, 15)] rfl (fun _ h9 => absurd h9 List.not_mem_nil) (by decide +kernel) (by decide) (by decide) v_i508 n_i522 (fun q => ?_)
      refine gw_astoren C 3 [(3, .ref q), (0, .ref o), (1, .int a1), (2, .ref ao)] dL_sheets_12 rfl (by decide) rfl ?_
      refine gw_iconst C 1 dL_sheets_13 (by decide) ?_
      exact gw_iret C Em dL_sheets_14 h
    · refine gw_catch C htab [(0, 9, 12, 13)] (0, 9, 15, 15) [] rfl (List.forall_mem_cons.mpr ⟨⟨by decide, "java/lang/IllegalArgumentException", v_i508, by decide +kernel, by decide +kernel⟩, fun _ h9 => absurd h9 List.not_mem_nil⟩) (by decide +kernel) (by decide) (by decide) v_i509 n_i591 (fun q => ?_)
      refine gw_astoren C 3 [(3, .ref q), (0, .ref o), (1, .int a1), (2, .ref ao)] dL_sheets_15 rfl (by decide) rfl ?_
      refine gw_iconst C 2 dL_sheets_16 (by decide) ?_
      exact gw_iret C Em dL_sheets_17 h
  · rintro v S' ⟨r, rfl, h⟩ _
    refine gw_i2l C dL_sheets_7 ?_
    refine gw_out C dL_sheets_8 ?_
    refine gw_goto C 18 dL_sheets_9 (by decide) ?_
    refine gw_iconst C 0 dL_sheets_18 (by decide) ?_
    exact gw_iret C Em dL_sheets_19 h
theorem k_sheetPage (l : Launch) (D : va_G) (K : Nat → ClassId) (E0 : Nat) (B : Nat × Nat) (A0 : Nat → Prop) (ao o : Nat) (a1 : Int32) (a2 : Int32) (a3 : Int32) (a4 : Int32) (S : CS) (ov : Nat → Int64) (P : Int32 → (Nat → Int64) → CS → Prop) (hk : kdC S o = 14) (h : w_X11_sheetPage B o a1 a2 a3 a4 S (fun r S' => P 0 (va_up ov 0 (Int32.toInt64 r)) S') (fun E S' => (E = "java/lang/IllegalArgumentException" ∧ P 1 ov S') ∨ (E = "java/lang/IllegalStateException" ∧ P 2 ov S') ∨ (E = "java/lang/IndexOutOfBoundsException" ∧ P 3 ov S'))) : MetW l yL_sheetPage cL_sheetPage 7 [(0, 14, 17, 13), (0, 14, 21, 15), (0, 14, 25, 21)] 13 [.ref o, .int a1, .int a2, .int a3, .int a4, .ref ao] P D K E0 B A0 ao S ov := by
  refine gw_start (by decide) rfl (Nat.le_of_ble_eq_true rfl) (fun p e s m args below meth c C htab Em => ?_)
  refine gw_aload C 5 dL_sheetPage_0 rfl ?_
  refine gw_iconst C 0 dL_sheetPage_2 (by decide) ?_
  refine gw_aloadn C 0 0 dL_sheetPage_3 rfl rfl ?_
  refine gw_iloadn C 1 1 dL_sheetPage_4 rfl rfl ?_
  refine gw_iloadn C 2 2 dL_sheetPage_5 rfl rfl ?_
  refine gw_iloadn C 3 3 dL_sheetPage_6 rfl rfl ?_
  refine gw_iload C 4 dL_sheetPage_7 rfl ?_
  refine gw_call C (y := yX11_sheetPage) (as := [.int a1, .int a2, .int a3, .int a4]) rfl (by decide) (by decide) (c_X11_sheetPage l D K E0 B A0 o a1 a2 a3 a4 S _ _ h) hk_X11_sheetPage rfl vl_L_170 kc_X11_sheetPage (isC_of hk (by decide)) dL_sheetPage_9 (Nat.le_of_ble_eq_true rfl) ?_ ?_
  · rintro E S' hx
    rcases hx with ⟨rfl, h⟩ | ⟨rfl, h⟩ | ⟨rfl, h⟩
    · refine gw_catch C htab [] (0, 14, 17, 13) [(0, 14, 21, 15), (0, 14, 25, 21)] rfl (fun _ h9 => absurd h9 List.not_mem_nil) (by decide +kernel) (by decide) (by decide) v_i508 n_i522 (fun q => ?_)
      refine gw_astore C [(6, .ref q), (0, .ref o), (1, .int a1), (2, .int a2), (3, .int a3), (4, .int a4), (5, .ref ao)] dL_sheetPage_17 (by decide) rfl ?_
      refine gw_iconst C 1 dL_sheetPage_19 (by decide) ?_
      exact gw_iret C Em dL_sheetPage_20 h
    · refine gw_catch C htab [(0, 14, 17, 13)] (0, 14, 21, 15) [(0, 14, 25, 21)] rfl (List.forall_mem_cons.mpr ⟨⟨by decide, "java/lang/IllegalArgumentException", v_i508, by decide +kernel, by decide +kernel⟩, fun _ h9 => absurd h9 List.not_mem_nil⟩) (by decide +kernel) (by decide) (by decide) v_i509 n_i591 (fun q => ?_)
      refine gw_astore C [(6, .ref q), (0, .ref o), (1, .int a1), (2, .int a2), (3, .int a3), (4, .int a4), (5, .ref ao)] dL_sheetPage_21 (by decide) rfl ?_
      refine gw_iconst C 2 dL_sheetPage_23 (by decide) ?_
      exact gw_iret C Em dL_sheetPage_24 h
    · refine gw_catch C htab [(0, 14, 17, 13), (0, 14, 21, 15)] (0, 14, 25, 21) [] rfl (List.forall_mem_cons.mpr ⟨⟨by decide, "java/lang/IllegalArgumentException", v_i508, by decide +kernel, by decide +kernel⟩, List.forall_mem_cons.mpr ⟨⟨by decide, "java/lang/IllegalStateException", v_i509, by decide +kernel, by decide +kernel⟩, fun _ h9 => absurd h9 List.not_mem_nil⟩⟩) (by decide +kernel) (by decide) (by decide) v_i657 n_i671 (fun q => ?_)
      refine gw_astore C [(6, .ref q), (0, .ref o), (1, .int a1), (2, .int a2), (3, .int a3), (4, .int a4), (5, .ref ao)] dL_sheetPage_25 (by decide) rfl ?_
      refine gw_iconst C 3 dL_sheetPage_27 (by decide) ?_
      exact gw_iret C Em dL_sheetPage_28 h
  · rintro v S' ⟨r, rfl, h⟩ _
    refine gw_i2l C dL_sheetPage_12 ?_
    refine gw_out C dL_sheetPage_13 ?_
    refine gw_goto C 29 dL_sheetPage_14 (by decide) ?_
    refine gw_iconst C 0 dL_sheetPage_29 (by decide) ?_
    exact gw_iret C Em dL_sheetPage_30 h
