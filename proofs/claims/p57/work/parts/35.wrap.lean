/-! THE LAW'S METHODS THAT CALL THE CLASS AND CATCH -/
theorem kc_L_at : Cond.code yL_at cL_at 2 (some .int) ∈ wU := w_at 445 (by decide +kernel) (by decide +kernel)
theorem hk_L_at : yL_at.cls = RL ∧ yL_at.cls ≠ "java/lang/invoke/MethodHandle" ∧ yL_at.cls ≠ "java/lang/invoke/VarHandle" ∧ (parseMethodDescriptor yL_at.desc).map (fun d => d.parameters.length) = some 2 := by decide +kernel
theorem kc_L_low : Cond.code yL_low cL_low 2 (some .int) ∈ wU := w_at 914 (by decide +kernel) (by decide +kernel)
theorem hk_L_low : yL_low.cls = RL ∧ yL_low.cls ≠ "java/lang/invoke/MethodHandle" ∧ yL_low.cls ≠ "java/lang/invoke/VarHandle" ∧ (parseMethodDescriptor yL_low.desc).map (fun d => d.parameters.length) = some 2 := by decide +kernel
theorem v_i915 : Cond.constant RL 9 2147483647 ∈ wU := w_at 915 (by decide +kernel) (by decide +kernel)
theorem kc_L_addBar : Cond.codeWith yL_addBar cL_addBar 4 (some .int) [(0, 6, 7, 16), (0, 6, 11, 19)] ∈ wU := w_at 1126 (by decide +kernel) (by decide +kernel)
theorem hk_L_addBar : yL_addBar.cls = RL ∧ yL_addBar.cls ≠ "java/lang/invoke/MethodHandle" ∧ yL_addBar.cls ≠ "java/lang/invoke/VarHandle" ∧ (parseMethodDescriptor yL_addBar.desc).map (fun d => d.parameters.length) = some 3 := by decide +kernel
theorem v_i1127 : Cond.methodLink RL 10 yX11_addBar ∈ wU := w_at 1127 (by decide +kernel) (by decide +kernel)
theorem v_i1128 : Cond.instanceMethod yX11_addBar ∈ wU := w_at 1128 (by decide +kernel) (by decide +kernel)
theorem v_i1129 : Cond.selects RX11 yX11_addBar yX11_addBar ∈ wU := w_at 1129 (by decide +kernel) (by decide +kernel)
theorem vl_L_10 : ∀ w ∈ ([.methodLink RL 10 yX11_addBar, .instanceMethod yX11_addBar, .selects RX11 yX11_addBar yX11_addBar, .initialized RX11] : List Cond), w ∈ wU := w_4 v_i1127 v_i1128 v_i1129 v_i28
theorem v_i577 : Cond.classLink RL 16 "java/lang/IllegalArgumentException" ∈ wU := w_at 577 (by decide +kernel) (by decide +kernel)
theorem n_i590 : Cond.castable "java/lang/IllegalArgumentException" "java/lang/IllegalArgumentException" ∈ nwL := n_at 590 (by decide +kernel) rfl
theorem v_i617 : Cond.constant RL 18 -1000002 ∈ wU := w_at 617 (by decide +kernel) (by decide +kernel)
theorem v_i632 : Cond.classLink RL 19 "java/lang/IllegalStateException" ∈ wU := w_at 632 (by decide +kernel) (by decide +kernel)
theorem n_i649 : Cond.castable "java/lang/IllegalStateException" "java/lang/IllegalStateException" ∈ nwL := n_at 649 (by decide +kernel) rfl
theorem v_i908 : Cond.constant RL 21 -1000003 ∈ wU := w_at 908 (by decide +kernel) (by decide +kernel)
theorem kc_L_setMetre : Cond.codeWith yL_setMetre cL_setMetre 5 (some .int) [(0, 7, 8, 26), (0, 7, 13, 16), (0, 7, 18, 19)] ∈ wU := w_at 1205 (by decide +kernel) (by decide +kernel)
theorem hk_L_setMetre : yL_setMetre.cls = RL ∧ yL_setMetre.cls ≠ "java/lang/invoke/MethodHandle" ∧ yL_setMetre.cls ≠ "java/lang/invoke/VarHandle" ∧ (parseMethodDescriptor yL_setMetre.desc).map (fun d => d.parameters.length) = some 4 := by decide +kernel
theorem v_i1206 : Cond.methodLink RL 22 yX11_setMetre ∈ wU := w_at 1206 (by decide +kernel) (by decide +kernel)
theorem v_i1207 : Cond.instanceMethod yX11_setMetre ∈ wU := w_at 1207 (by decide +kernel) (by decide +kernel)
theorem v_i1208 : Cond.selects RX11 yX11_setMetre yX11_setMetre ∈ wU := w_at 1208 (by decide +kernel) (by decide +kernel)
theorem vl_L_22 : ∀ w ∈ ([.methodLink RL 22 yX11_setMetre, .instanceMethod yX11_setMetre, .selects RX11 yX11_setMetre yX11_setMetre, .initialized RX11] : List Cond), w ∈ wU := w_4 v_i1206 v_i1207 v_i1208 v_i28
theorem v_i457 : Cond.classLink RL 26 "java/lang/IndexOutOfBoundsException" ∈ wU := w_at 457 (by decide +kernel) (by decide +kernel)
theorem n_i467 : Cond.castable "java/lang/IndexOutOfBoundsException" "java/lang/IndexOutOfBoundsException" ∈ nwL := n_at 467 (by decide +kernel) rfl
theorem v_i533 : Cond.constant RL 28 -1000001 ∈ wU := w_at 533 (by decide +kernel) (by decide +kernel)
theorem kc_L_setTempo : Cond.codeWith yL_setTempo cL_setTempo 4 (some .int) [(0, 6, 7, 26), (0, 6, 11, 16)] ∈ wU := w_at 1198 (by decide +kernel) (by decide +kernel)
theorem hk_L_setTempo : yL_setTempo.cls = RL ∧ yL_setTempo.cls ≠ "java/lang/invoke/MethodHandle" ∧ yL_setTempo.cls ≠ "java/lang/invoke/VarHandle" ∧ (parseMethodDescriptor yL_setTempo.desc).map (fun d => d.parameters.length) = some 3 := by decide +kernel
theorem v_i1199 : Cond.methodLink RL 29 yX11_setTempo ∈ wU := w_at 1199 (by decide +kernel) (by decide +kernel)
theorem v_i1200 : Cond.instanceMethod yX11_setTempo ∈ wU := w_at 1200 (by decide +kernel) (by decide +kernel)
theorem v_i1201 : Cond.selects RX11 yX11_setTempo yX11_setTempo ∈ wU := w_at 1201 (by decide +kernel) (by decide +kernel)
theorem vl_L_29 : ∀ w ∈ ([.methodLink RL 29 yX11_setTempo, .instanceMethod yX11_setTempo, .selects RX11 yX11_setTempo yX11_setTempo, .initialized RX11] : List Cond), w ∈ wU := w_4 v_i1199 v_i1200 v_i1201 v_i28
theorem kc_L_length : Cond.codeWith yL_length cL_length 3 (some .int) [(0, 5, 6, 26)] ∈ wU := w_at 555 (by decide +kernel) (by decide +kernel)
theorem hk_L_length : yL_length.cls = RL ∧ yL_length.cls ≠ "java/lang/invoke/MethodHandle" ∧ yL_length.cls ≠ "java/lang/invoke/VarHandle" ∧ (parseMethodDescriptor yL_length.desc).map (fun d => d.parameters.length) = some 2 := by decide +kernel
theorem v_i556 : Cond.methodLink RL 32 yX11_length ∈ wU := w_at 556 (by decide +kernel) (by decide +kernel)
theorem v_i557 : Cond.instanceMethod yX11_length ∈ wU := w_at 557 (by decide +kernel) (by decide +kernel)
theorem v_i558 : Cond.selects RX11 yX11_length yX11_length ∈ wU := w_at 558 (by decide +kernel) (by decide +kernel)
theorem vl_L_32 : ∀ w ∈ ([.methodLink RL 32 yX11_length, .instanceMethod yX11_length, .selects RX11 yX11_length yX11_length, .initialized RX11] : List Cond), w ∈ wU := w_4 v_i556 v_i557 v_i558 v_i28
theorem kc_L_tempo : Cond.codeWith yL_tempo cL_tempo 3 (some .int) [(0, 5, 6, 26)] ∈ wU := w_at 564 (by decide +kernel) (by decide +kernel)
theorem hk_L_tempo : yL_tempo.cls = RL ∧ yL_tempo.cls ≠ "java/lang/invoke/MethodHandle" ∧ yL_tempo.cls ≠ "java/lang/invoke/VarHandle" ∧ (parseMethodDescriptor yL_tempo.desc).map (fun d => d.parameters.length) = some 2 := by decide +kernel
theorem v_i565 : Cond.methodLink RL 36 yX11_tempo ∈ wU := w_at 565 (by decide +kernel) (by decide +kernel)
theorem v_i566 : Cond.instanceMethod yX11_tempo ∈ wU := w_at 566 (by decide +kernel) (by decide +kernel)
theorem v_i567 : Cond.selects RX11 yX11_tempo yX11_tempo ∈ wU := w_at 567 (by decide +kernel) (by decide +kernel)
theorem vl_L_36 : ∀ w ∈ ([.methodLink RL 36 yX11_tempo, .instanceMethod yX11_tempo, .selects RX11 yX11_tempo yX11_tempo, .initialized RX11] : List Cond), w ∈ wU := w_4 v_i565 v_i566 v_i567 v_i28
theorem kc_L_time : Cond.codeWith yL_time cL_time 3 (some .int) [(0, 5, 6, 26)] ∈ wU := w_at 543 (by decide +kernel) (by decide +kernel)
theorem hk_L_time : yL_time.cls = RL ∧ yL_time.cls ≠ "java/lang/invoke/MethodHandle" ∧ yL_time.cls ≠ "java/lang/invoke/VarHandle" ∧ (parseMethodDescriptor yL_time.desc).map (fun d => d.parameters.length) = some 2 := by decide +kernel
theorem v_i544 : Cond.methodLink RL 39 yX11_time ∈ wU := w_at 544 (by decide +kernel) (by decide +kernel)
theorem v_i545 : Cond.instanceMethod yX11_time ∈ wU := w_at 545 (by decide +kernel) (by decide +kernel)
theorem v_i546 : Cond.selects RX11 yX11_time yX11_time ∈ wU := w_at 546 (by decide +kernel) (by decide +kernel)
theorem vl_L_39 : ∀ w ∈ ([.methodLink RL 39 yX11_time, .instanceMethod yX11_time, .selects RX11 yX11_time yX11_time, .initialized RX11] : List Cond), w ∈ wU := w_4 v_i544 v_i545 v_i546 v_i28
theorem kc_L_insert : Cond.codeWith yL_insert cL_insert 8 (some .int) [(0, 13, 14, 16), (0, 13, 19, 26), (0, 13, 24, 19)] ∈ wU := w_at 1354 (by decide +kernel) (by decide +kernel)
theorem hk_L_insert : yL_insert.cls = RL ∧ yL_insert.cls ≠ "java/lang/invoke/MethodHandle" ∧ yL_insert.cls ≠ "java/lang/invoke/VarHandle" ∧ (parseMethodDescriptor yL_insert.desc).map (fun d => d.parameters.length) = some 7 := by decide +kernel
theorem v_i1355 : Cond.methodLink RL 42 yX11_insert ∈ wU := w_at 1355 (by decide +kernel) (by decide +kernel)
theorem v_i1356 : Cond.instanceMethod yX11_insert ∈ wU := w_at 1356 (by decide +kernel) (by decide +kernel)
theorem v_i1357 : Cond.selects RX11 yX11_insert yX11_insert ∈ wU := w_at 1357 (by decide +kernel) (by decide +kernel)
theorem vl_L_42 : ∀ w ∈ ([.methodLink RL 42 yX11_insert, .instanceMethod yX11_insert, .selects RX11 yX11_insert yX11_insert, .initialized RX11] : List Cond), w ∈ wU := w_4 v_i1355 v_i1356 v_i1357 v_i28
theorem kc_L_remove : Cond.codeWith yL_remove cL_remove 5 (some .int) [(0, 7, 8, 16), (0, 7, 13, 26)] ∈ wU := w_at 1667 (by decide +kernel) (by decide +kernel)
theorem hk_L_remove : yL_remove.cls = RL ∧ yL_remove.cls ≠ "java/lang/invoke/MethodHandle" ∧ yL_remove.cls ≠ "java/lang/invoke/VarHandle" ∧ (parseMethodDescriptor yL_remove.desc).map (fun d => d.parameters.length) = some 4 := by decide +kernel
theorem v_i1668 : Cond.methodLink RL 46 yX11_remove ∈ wU := w_at 1668 (by decide +kernel) (by decide +kernel)
theorem v_i1669 : Cond.instanceMethod yX11_remove ∈ wU := w_at 1669 (by decide +kernel) (by decide +kernel)
theorem v_i1670 : Cond.selects RX11 yX11_remove yX11_remove ∈ wU := w_at 1670 (by decide +kernel) (by decide +kernel)
theorem vl_L_46 : ∀ w ∈ ([.methodLink RL 46 yX11_remove, .instanceMethod yX11_remove, .selects RX11 yX11_remove yX11_remove, .initialized RX11] : List Cond), w ∈ wU := w_4 v_i1668 v_i1669 v_i1670 v_i28
theorem kc_L_setPitch : Cond.codeWith yL_setPitch cL_setPitch 6 (some .int) [(0, 9, 10, 16), (0, 9, 15, 26), (0, 9, 20, 19)] ∈ wU := w_at 1702 (by decide +kernel) (by decide +kernel)
theorem hk_L_setPitch : yL_setPitch.cls = RL ∧ yL_setPitch.cls ≠ "java/lang/invoke/MethodHandle" ∧ yL_setPitch.cls ≠ "java/lang/invoke/VarHandle" ∧ (parseMethodDescriptor yL_setPitch.desc).map (fun d => d.parameters.length) = some 5 := by decide +kernel
theorem v_i1703 : Cond.methodLink RL 49 yX11_setPitch ∈ wU := w_at 1703 (by decide +kernel) (by decide +kernel)
theorem v_i1704 : Cond.instanceMethod yX11_setPitch ∈ wU := w_at 1704 (by decide +kernel) (by decide +kernel)
theorem v_i1705 : Cond.selects RX11 yX11_setPitch yX11_setPitch ∈ wU := w_at 1705 (by decide +kernel) (by decide +kernel)
theorem vl_L_49 : ∀ w ∈ ([.methodLink RL 49 yX11_setPitch, .instanceMethod yX11_setPitch, .selects RX11 yX11_setPitch yX11_setPitch, .initialized RX11] : List Cond), w ∈ wU := w_4 v_i1703 v_i1704 v_i1705 v_i28
theorem kc_L_setTie : Cond.codeWith yL_setTie cL_setTie 6 (some .int) [(0, 17, 18, 16), (0, 17, 23, 26), (0, 17, 28, 19)] ∈ wU := w_at 1694 (by decide +kernel) (by decide +kernel)
theorem hk_L_setTie : yL_setTie.cls = RL ∧ yL_setTie.cls ≠ "java/lang/invoke/MethodHandle" ∧ yL_setTie.cls ≠ "java/lang/invoke/VarHandle" ∧ (parseMethodDescriptor yL_setTie.desc).map (fun d => d.parameters.length) = some 5 := by decide +kernel
theorem v_i1695 : Cond.methodLink RL 53 yX11_setTie ∈ wU := w_at 1695 (by decide +kernel) (by decide +kernel)
theorem v_i1696 : Cond.instanceMethod yX11_setTie ∈ wU := w_at 1696 (by decide +kernel) (by decide +kernel)
theorem v_i1697 : Cond.selects RX11 yX11_setTie yX11_setTie ∈ wU := w_at 1697 (by decide +kernel) (by decide +kernel)
theorem vl_L_53 : ∀ w ∈ ([.methodLink RL 53 yX11_setTie, .instanceMethod yX11_setTie, .selects RX11 yX11_setTie yX11_setTie, .initialized RX11] : List Cond), w ∈ wU := w_4 v_i1695 v_i1696 v_i1697 v_i28
theorem kc_L_setMark : Cond.codeWith yL_setMark cL_setMark 6 (some .int) [(0, 9, 10, 16), (0, 9, 15, 26)] ∈ wU := w_at 1687 (by decide +kernel) (by decide +kernel)
theorem hk_L_setMark : yL_setMark.cls = RL ∧ yL_setMark.cls ≠ "java/lang/invoke/MethodHandle" ∧ yL_setMark.cls ≠ "java/lang/invoke/VarHandle" ∧ (parseMethodDescriptor yL_setMark.desc).map (fun d => d.parameters.length) = some 5 := by decide +kernel
theorem v_i1688 : Cond.methodLink RL 57 yX11_setMark ∈ wU := w_at 1688 (by decide +kernel) (by decide +kernel)
theorem v_i1689 : Cond.instanceMethod yX11_setMark ∈ wU := w_at 1689 (by decide +kernel) (by decide +kernel)
theorem v_i1690 : Cond.selects RX11 yX11_setMark yX11_setMark ∈ wU := w_at 1690 (by decide +kernel) (by decide +kernel)
theorem vl_L_57 : ∀ w ∈ ([.methodLink RL 57 yX11_setMark, .instanceMethod yX11_setMark, .selects RX11 yX11_setMark yX11_setMark, .initialized RX11] : List Cond), w ∈ wU := w_4 v_i1688 v_i1689 v_i1690 v_i28
theorem kc_L_transpose : Cond.codeWith yL_transpose cL_transpose 4 (some .int) [(0, 6, 7, 16), (0, 6, 11, 19)] ∈ wU := w_at 1272 (by decide +kernel) (by decide +kernel)
theorem hk_L_transpose : yL_transpose.cls = RL ∧ yL_transpose.cls ≠ "java/lang/invoke/MethodHandle" ∧ yL_transpose.cls ≠ "java/lang/invoke/VarHandle" ∧ (parseMethodDescriptor yL_transpose.desc).map (fun d => d.parameters.length) = some 3 := by decide +kernel
theorem v_i1273 : Cond.methodLink RL 60 yX11_transpose ∈ wU := w_at 1273 (by decide +kernel) (by decide +kernel)
theorem v_i1274 : Cond.instanceMethod yX11_transpose ∈ wU := w_at 1274 (by decide +kernel) (by decide +kernel)
theorem v_i1275 : Cond.selects RX11 yX11_transpose yX11_transpose ∈ wU := w_at 1275 (by decide +kernel) (by decide +kernel)
theorem vl_L_60 : ∀ w ∈ ([.methodLink RL 60 yX11_transpose, .instanceMethod yX11_transpose, .selects RX11 yX11_transpose yX11_transpose, .initialized RX11] : List Cond), w ∈ wU := w_4 v_i1273 v_i1274 v_i1275 v_i28
theorem kc_L_events : Cond.codeWith yL_events cL_events 4 (some .int) [(0, 6, 7, 16), (0, 6, 11, 26)] ∈ wU := w_at 1004 (by decide +kernel) (by decide +kernel)
theorem hk_L_events : yL_events.cls = RL ∧ yL_events.cls ≠ "java/lang/invoke/MethodHandle" ∧ yL_events.cls ≠ "java/lang/invoke/VarHandle" ∧ (parseMethodDescriptor yL_events.desc).map (fun d => d.parameters.length) = some 3 := by decide +kernel
theorem v_i1005 : Cond.methodLink RL 63 yX11_events ∈ wU := w_at 1005 (by decide +kernel) (by decide +kernel)
theorem v_i1006 : Cond.instanceMethod yX11_events ∈ wU := w_at 1006 (by decide +kernel) (by decide +kernel)
theorem v_i1007 : Cond.selects RX11 yX11_events yX11_events ∈ wU := w_at 1007 (by decide +kernel) (by decide +kernel)
theorem vl_L_63 : ∀ w ∈ ([.methodLink RL 63 yX11_events, .instanceMethod yX11_events, .selects RX11 yX11_events yX11_events, .initialized RX11] : List Cond), w ∈ wU := w_4 v_i1005 v_i1006 v_i1007 v_i28
theorem kc_L_left : Cond.codeWith yL_left cL_left 4 (some .int) [(0, 6, 7, 16), (0, 6, 11, 26)] ∈ wU := w_at 1187 (by decide +kernel) (by decide +kernel)
theorem hk_L_left : yL_left.cls = RL ∧ yL_left.cls ≠ "java/lang/invoke/MethodHandle" ∧ yL_left.cls ≠ "java/lang/invoke/VarHandle" ∧ (parseMethodDescriptor yL_left.desc).map (fun d => d.parameters.length) = some 3 := by decide +kernel
theorem v_i1188 : Cond.methodLink RL 66 yX11_left ∈ wU := w_at 1188 (by decide +kernel) (by decide +kernel)
theorem v_i1189 : Cond.instanceMethod yX11_left ∈ wU := w_at 1189 (by decide +kernel) (by decide +kernel)
theorem v_i1190 : Cond.selects RX11 yX11_left yX11_left ∈ wU := w_at 1190 (by decide +kernel) (by decide +kernel)
theorem vl_L_66 : ∀ w ∈ ([.methodLink RL 66 yX11_left, .instanceMethod yX11_left, .selects RX11 yX11_left yX11_left, .initialized RX11] : List Cond), w ∈ wU := w_4 v_i1188 v_i1189 v_i1190 v_i28
theorem kc_L_isRight : Cond.codeWith yL_isRight cL_isRight 4 (some .int) [(0, 14, 15, 16), (0, 14, 19, 26)] ∈ wU := w_at 576 (by decide +kernel) (by decide +kernel)
theorem hk_L_isRight : yL_isRight.cls = RL ∧ yL_isRight.cls ≠ "java/lang/invoke/MethodHandle" ∧ yL_isRight.cls ≠ "java/lang/invoke/VarHandle" ∧ (parseMethodDescriptor yL_isRight.desc).map (fun d => d.parameters.length) = some 3 := by decide +kernel
theorem v_i578 : Cond.methodLink RL 69 yX11_isRight ∈ wU := w_at 578 (by decide +kernel) (by decide +kernel)
theorem v_i579 : Cond.instanceMethod yX11_isRight ∈ wU := w_at 579 (by decide +kernel) (by decide +kernel)
theorem v_i580 : Cond.selects RX11 yX11_isRight yX11_isRight ∈ wU := w_at 580 (by decide +kernel) (by decide +kernel)
theorem vl_L_69 : ∀ w ∈ ([.methodLink RL 69 yX11_isRight, .instanceMethod yX11_isRight, .selects RX11 yX11_isRight yX11_isRight, .initialized RX11] : List Cond), w ∈ wU := w_4 v_i578 v_i579 v_i580 v_i28
theorem kc_L_written : Cond.codeWith yL_written cL_written 5 (some .int) [(0, 7, 8, 16), (0, 7, 13, 26)] ∈ wU := w_at 1659 (by decide +kernel) (by decide +kernel)
theorem hk_L_written : yL_written.cls = RL ∧ yL_written.cls ≠ "java/lang/invoke/MethodHandle" ∧ yL_written.cls ≠ "java/lang/invoke/VarHandle" ∧ (parseMethodDescriptor yL_written.desc).map (fun d => d.parameters.length) = some 4 := by decide +kernel
theorem v_i1660 : Cond.methodLink RL 73 yX11_written ∈ wU := w_at 1660 (by decide +kernel) (by decide +kernel)
theorem v_i1661 : Cond.instanceMethod yX11_written ∈ wU := w_at 1661 (by decide +kernel) (by decide +kernel)
theorem v_i1662 : Cond.selects RX11 yX11_written yX11_written ∈ wU := w_at 1662 (by decide +kernel) (by decide +kernel)
theorem vl_L_73 : ∀ w ∈ ([.methodLink RL 73 yX11_written, .instanceMethod yX11_written, .selects RX11 yX11_written yX11_written, .initialized RX11] : List Cond), w ∈ wU := w_4 v_i1660 v_i1661 v_i1662 v_i28
theorem kc_L_addPhrase : Cond.codeWith yL_addPhrase cL_addPhrase 7 (some .int) [(0, 11, 12, 16), (0, 11, 17, 26), (0, 11, 22, 19)] ∈ wU := w_at 1301 (by decide +kernel) (by decide +kernel)
theorem hk_L_addPhrase : yL_addPhrase.cls = RL ∧ yL_addPhrase.cls ≠ "java/lang/invoke/MethodHandle" ∧ yL_addPhrase.cls ≠ "java/lang/invoke/VarHandle" ∧ (parseMethodDescriptor yL_addPhrase.desc).map (fun d => d.parameters.length) = some 6 := by decide +kernel
theorem v_i1302 : Cond.methodLink RL 76 yX11_addPhrase ∈ wU := w_at 1302 (by decide +kernel) (by decide +kernel)
theorem v_i1303 : Cond.instanceMethod yX11_addPhrase ∈ wU := w_at 1303 (by decide +kernel) (by decide +kernel)
theorem v_i1304 : Cond.selects RX11 yX11_addPhrase yX11_addPhrase ∈ wU := w_at 1304 (by decide +kernel) (by decide +kernel)
theorem vl_L_76 : ∀ w ∈ ([.methodLink RL 76 yX11_addPhrase, .instanceMethod yX11_addPhrase, .selects RX11 yX11_addPhrase yX11_addPhrase, .initialized RX11] : List Cond), w ∈ wU := w_4 v_i1302 v_i1303 v_i1304 v_i28
theorem kc_L_dropPhrase : Cond.codeWith yL_dropPhrase cL_dropPhrase 3 (some .int) [(0, 13, 14, 26)] ∈ wU := w_at 1341 (by decide +kernel) (by decide +kernel)
theorem hk_L_dropPhrase : yL_dropPhrase.cls = RL ∧ yL_dropPhrase.cls ≠ "java/lang/invoke/MethodHandle" ∧ yL_dropPhrase.cls ≠ "java/lang/invoke/VarHandle" ∧ (parseMethodDescriptor yL_dropPhrase.desc).map (fun d => d.parameters.length) = some 2 := by decide +kernel
theorem v_i1342 : Cond.methodLink RL 80 yX11_dropPhrase ∈ wU := w_at 1342 (by decide +kernel) (by decide +kernel)
theorem v_i1343 : Cond.instanceMethod yX11_dropPhrase ∈ wU := w_at 1343 (by decide +kernel) (by decide +kernel)
theorem v_i1344 : Cond.selects RX11 yX11_dropPhrase yX11_dropPhrase ∈ wU := w_at 1344 (by decide +kernel) (by decide +kernel)
theorem vl_L_80 : ∀ w ∈ ([.methodLink RL 80 yX11_dropPhrase, .instanceMethod yX11_dropPhrase, .selects RX11 yX11_dropPhrase yX11_dropPhrase, .initialized RX11] : List Cond), w ∈ wU := w_4 v_i1342 v_i1343 v_i1344 v_i28
theorem kc_L_allowTurn : Cond.codeWith yL_allowTurn cL_allowTurn 5 (some .int) [(0, 15, 16, 16), (0, 15, 21, 26)] ∈ wU := w_at 1294 (by decide +kernel) (by decide +kernel)
theorem hk_L_allowTurn : yL_allowTurn.cls = RL ∧ yL_allowTurn.cls ≠ "java/lang/invoke/MethodHandle" ∧ yL_allowTurn.cls ≠ "java/lang/invoke/VarHandle" ∧ (parseMethodDescriptor yL_allowTurn.desc).map (fun d => d.parameters.length) = some 4 := by decide +kernel
theorem v_i1295 : Cond.methodLink RL 84 yX11_allowTurn ∈ wU := w_at 1295 (by decide +kernel) (by decide +kernel)
theorem v_i1296 : Cond.instanceMethod yX11_allowTurn ∈ wU := w_at 1296 (by decide +kernel) (by decide +kernel)
theorem v_i1297 : Cond.selects RX11 yX11_allowTurn yX11_allowTurn ∈ wU := w_at 1297 (by decide +kernel) (by decide +kernel)
theorem vl_L_84 : ∀ w ∈ ([.methodLink RL 84 yX11_allowTurn, .instanceMethod yX11_allowTurn, .selects RX11 yX11_allowTurn yX11_allowTurn, .initialized RX11] : List Cond), w ∈ wU := w_4 v_i1295 v_i1296 v_i1297 v_i28
theorem kc_L_addRepeat : Cond.codeWith yL_addRepeat cL_addRepeat 5 (some .int) [(0, 7, 8, 26), (0, 7, 13, 16), (0, 7, 18, 19)] ∈ wU := w_at 1219 (by decide +kernel) (by decide +kernel)
theorem hk_L_addRepeat : yL_addRepeat.cls = RL ∧ yL_addRepeat.cls ≠ "java/lang/invoke/MethodHandle" ∧ yL_addRepeat.cls ≠ "java/lang/invoke/VarHandle" ∧ (parseMethodDescriptor yL_addRepeat.desc).map (fun d => d.parameters.length) = some 4 := by decide +kernel
theorem v_i1220 : Cond.methodLink RL 88 yX11_addRepeat ∈ wU := w_at 1220 (by decide +kernel) (by decide +kernel)
theorem v_i1221 : Cond.instanceMethod yX11_addRepeat ∈ wU := w_at 1221 (by decide +kernel) (by decide +kernel)
theorem v_i1222 : Cond.selects RX11 yX11_addRepeat yX11_addRepeat ∈ wU := w_at 1222 (by decide +kernel) (by decide +kernel)
theorem vl_L_88 : ∀ w ∈ ([.methodLink RL 88 yX11_addRepeat, .instanceMethod yX11_addRepeat, .selects RX11 yX11_addRepeat yX11_addRepeat, .initialized RX11] : List Cond), w ∈ wU := w_4 v_i1220 v_i1221 v_i1222 v_i28
theorem kc_L_dropRepeat : Cond.codeWith yL_dropRepeat cL_dropRepeat 3 (some .int) [(0, 5, 6, 26), (0, 5, 10, 19)] ∈ wU := w_at 1254 (by decide +kernel) (by decide +kernel)
theorem hk_L_dropRepeat : yL_dropRepeat.cls = RL ∧ yL_dropRepeat.cls ≠ "java/lang/invoke/MethodHandle" ∧ yL_dropRepeat.cls ≠ "java/lang/invoke/VarHandle" ∧ (parseMethodDescriptor yL_dropRepeat.desc).map (fun d => d.parameters.length) = some 2 := by decide +kernel
theorem v_i1255 : Cond.methodLink RL 91 yX11_dropRepeat ∈ wU := w_at 1255 (by decide +kernel) (by decide +kernel)
theorem v_i1256 : Cond.instanceMethod yX11_dropRepeat ∈ wU := w_at 1256 (by decide +kernel) (by decide +kernel)
theorem v_i1257 : Cond.selects RX11 yX11_dropRepeat yX11_dropRepeat ∈ wU := w_at 1257 (by decide +kernel) (by decide +kernel)
theorem vl_L_91 : ∀ w ∈ ([.methodLink RL 91 yX11_dropRepeat, .instanceMethod yX11_dropRepeat, .selects RX11 yX11_dropRepeat yX11_dropRepeat, .initialized RX11] : List Cond), w ∈ wU := w_4 v_i1255 v_i1256 v_i1257 v_i28
theorem kc_L_barAt : Cond.codeWith yL_barAt cL_barAt 3 (some .int) [(0, 5, 6, 26)] ∈ wU := w_at 456 (by decide +kernel) (by decide +kernel)
theorem hk_L_barAt : yL_barAt.cls = RL ∧ yL_barAt.cls ≠ "java/lang/invoke/MethodHandle" ∧ yL_barAt.cls ≠ "java/lang/invoke/VarHandle" ∧ (parseMethodDescriptor yL_barAt.desc).map (fun d => d.parameters.length) = some 2 := by decide +kernel
theorem v_i458 : Cond.methodLink RL 94 yX11_barAt ∈ wU := w_at 458 (by decide +kernel) (by decide +kernel)
theorem v_i459 : Cond.instanceMethod yX11_barAt ∈ wU := w_at 459 (by decide +kernel) (by decide +kernel)
theorem v_i460 : Cond.selects RX11 yX11_barAt yX11_barAt ∈ wU := w_at 460 (by decide +kernel) (by decide +kernel)
theorem vl_L_94 : ∀ w ∈ ([.methodLink RL 94 yX11_barAt, .instanceMethod yX11_barAt, .selects RX11 yX11_barAt yX11_barAt, .initialized RX11] : List Cond), w ∈ wU := w_4 v_i458 v_i459 v_i460 v_i28
theorem kc_L_startOf : Cond.codeWith yL_startOf cL_startOf 3 (some .int) [(0, 5, 6, 26)] ∈ wU := w_at 536 (by decide +kernel) (by decide +kernel)
theorem hk_L_startOf : yL_startOf.cls = RL ∧ yL_startOf.cls ≠ "java/lang/invoke/MethodHandle" ∧ yL_startOf.cls ≠ "java/lang/invoke/VarHandle" ∧ (parseMethodDescriptor yL_startOf.desc).map (fun d => d.parameters.length) = some 2 := by decide +kernel
theorem v_i537 : Cond.methodLink RL 97 yX11_startOf ∈ wU := w_at 537 (by decide +kernel) (by decide +kernel)
theorem v_i538 : Cond.instanceMethod yX11_startOf ∈ wU := w_at 538 (by decide +kernel) (by decide +kernel)
theorem v_i539 : Cond.selects RX11 yX11_startOf yX11_startOf ∈ wU := w_at 539 (by decide +kernel) (by decide +kernel)
theorem vl_L_97 : ∀ w ∈ ([.methodLink RL 97 yX11_startOf, .instanceMethod yX11_startOf, .selects RX11 yX11_startOf yX11_startOf, .initialized RX11] : List Cond), w ∈ wU := w_4 v_i537 v_i538 v_i539 v_i28
theorem kc_L_timeByEvents : Cond.codeWith yL_timeByEvents cL_timeByEvents 3 (some .int) [(0, 5, 6, 16)] ∈ wU := w_at 620 (by decide +kernel) (by decide +kernel)
theorem hk_L_timeByEvents : yL_timeByEvents.cls = RL ∧ yL_timeByEvents.cls ≠ "java/lang/invoke/MethodHandle" ∧ yL_timeByEvents.cls ≠ "java/lang/invoke/VarHandle" ∧ (parseMethodDescriptor yL_timeByEvents.desc).map (fun d => d.parameters.length) = some 2 := by decide +kernel
theorem v_i621 : Cond.methodLink RL 100 yX11_timeByEvents ∈ wU := w_at 621 (by decide +kernel) (by decide +kernel)
theorem v_i622 : Cond.instanceMethod yX11_timeByEvents ∈ wU := w_at 622 (by decide +kernel) (by decide +kernel)
theorem v_i623 : Cond.selects RX11 yX11_timeByEvents yX11_timeByEvents ∈ wU := w_at 623 (by decide +kernel) (by decide +kernel)
theorem vl_L_100 : ∀ w ∈ ([.methodLink RL 100 yX11_timeByEvents, .instanceMethod yX11_timeByEvents, .selects RX11 yX11_timeByEvents yX11_timeByEvents, .initialized RX11] : List Cond), w ∈ wU := w_4 v_i621 v_i622 v_i623 v_i28
theorem kc_L_soundVoice : Cond.codeWith yL_soundVoice cL_soundVoice 3 (some .int) [(0, 5, 6, 26)] ∈ wU := w_at 918 (by decide +kernel) (by decide +kernel)
theorem hk_L_soundVoice : yL_soundVoice.cls = RL ∧ yL_soundVoice.cls ≠ "java/lang/invoke/MethodHandle" ∧ yL_soundVoice.cls ≠ "java/lang/invoke/VarHandle" ∧ (parseMethodDescriptor yL_soundVoice.desc).map (fun d => d.parameters.length) = some 2 := by decide +kernel
theorem v_i919 : Cond.methodLink RL 103 yX11_soundVoice ∈ wU := w_at 919 (by decide +kernel) (by decide +kernel)
theorem v_i920 : Cond.instanceMethod yX11_soundVoice ∈ wU := w_at 920 (by decide +kernel) (by decide +kernel)
theorem v_i921 : Cond.selects RX11 yX11_soundVoice yX11_soundVoice ∈ wU := w_at 921 (by decide +kernel) (by decide +kernel)
theorem vl_L_103 : ∀ w ∈ ([.methodLink RL 103 yX11_soundVoice, .instanceMethod yX11_soundVoice, .selects RX11 yX11_soundVoice yX11_soundVoice, .initialized RX11] : List Cond), w ∈ wU := w_4 v_i919 v_i920 v_i921 v_i28
theorem kc_L_soundStart : Cond.codeWith yL_soundStart cL_soundStart 3 (some .int) [(0, 5, 6, 26)] ∈ wU := w_at 931 (by decide +kernel) (by decide +kernel)
theorem hk_L_soundStart : yL_soundStart.cls = RL ∧ yL_soundStart.cls ≠ "java/lang/invoke/MethodHandle" ∧ yL_soundStart.cls ≠ "java/lang/invoke/VarHandle" ∧ (parseMethodDescriptor yL_soundStart.desc).map (fun d => d.parameters.length) = some 2 := by decide +kernel
theorem v_i932 : Cond.methodLink RL 106 yX11_soundStart ∈ wU := w_at 932 (by decide +kernel) (by decide +kernel)
theorem v_i933 : Cond.instanceMethod yX11_soundStart ∈ wU := w_at 933 (by decide +kernel) (by decide +kernel)
theorem v_i934 : Cond.selects RX11 yX11_soundStart yX11_soundStart ∈ wU := w_at 934 (by decide +kernel) (by decide +kernel)
theorem vl_L_106 : ∀ w ∈ ([.methodLink RL 106 yX11_soundStart, .instanceMethod yX11_soundStart, .selects RX11 yX11_soundStart yX11_soundStart, .initialized RX11] : List Cond), w ∈ wU := w_4 v_i932 v_i933 v_i934 v_i28
theorem kc_L_soundTime : Cond.codeWith yL_soundTime cL_soundTime 3 (some .int) [(0, 5, 6, 26)] ∈ wU := w_at 938 (by decide +kernel) (by decide +kernel)
theorem hk_L_soundTime : yL_soundTime.cls = RL ∧ yL_soundTime.cls ≠ "java/lang/invoke/MethodHandle" ∧ yL_soundTime.cls ≠ "java/lang/invoke/VarHandle" ∧ (parseMethodDescriptor yL_soundTime.desc).map (fun d => d.parameters.length) = some 2 := by decide +kernel
theorem v_i939 : Cond.methodLink RL 109 yX11_soundTime ∈ wU := w_at 939 (by decide +kernel) (by decide +kernel)
theorem v_i940 : Cond.instanceMethod yX11_soundTime ∈ wU := w_at 940 (by decide +kernel) (by decide +kernel)
theorem v_i941 : Cond.selects RX11 yX11_soundTime yX11_soundTime ∈ wU := w_at 941 (by decide +kernel) (by decide +kernel)
theorem vl_L_109 : ∀ w ∈ ([.methodLink RL 109 yX11_soundTime, .instanceMethod yX11_soundTime, .selects RX11 yX11_soundTime yX11_soundTime, .initialized RX11] : List Cond), w ∈ wU := w_4 v_i939 v_i940 v_i941 v_i28
theorem kc_L_soundPitch : Cond.codeWith yL_soundPitch cL_soundPitch 3 (some .int) [(0, 5, 6, 26)] ∈ wU := w_at 945 (by decide +kernel) (by decide +kernel)
theorem hk_L_soundPitch : yL_soundPitch.cls = RL ∧ yL_soundPitch.cls ≠ "java/lang/invoke/MethodHandle" ∧ yL_soundPitch.cls ≠ "java/lang/invoke/VarHandle" ∧ (parseMethodDescriptor yL_soundPitch.desc).map (fun d => d.parameters.length) = some 2 := by decide +kernel
theorem v_i946 : Cond.methodLink RL 112 yX11_soundPitch ∈ wU := w_at 946 (by decide +kernel) (by decide +kernel)
theorem v_i947 : Cond.instanceMethod yX11_soundPitch ∈ wU := w_at 947 (by decide +kernel) (by decide +kernel)
theorem v_i948 : Cond.selects RX11 yX11_soundPitch yX11_soundPitch ∈ wU := w_at 948 (by decide +kernel) (by decide +kernel)
theorem vl_L_112 : ∀ w ∈ ([.methodLink RL 112 yX11_soundPitch, .instanceMethod yX11_soundPitch, .selects RX11 yX11_soundPitch yX11_soundPitch, .initialized RX11] : List Cond), w ∈ wU := w_4 v_i946 v_i947 v_i948 v_i28
theorem kc_L_loudness : Cond.codeWith yL_loudness cL_loudness 3 (some .int) [(0, 5, 6, 26)] ∈ wU := w_at 952 (by decide +kernel) (by decide +kernel)
theorem hk_L_loudness : yL_loudness.cls = RL ∧ yL_loudness.cls ≠ "java/lang/invoke/MethodHandle" ∧ yL_loudness.cls ≠ "java/lang/invoke/VarHandle" ∧ (parseMethodDescriptor yL_loudness.desc).map (fun d => d.parameters.length) = some 2 := by decide +kernel
theorem v_i953 : Cond.methodLink RL 115 yX11_loudness ∈ wU := w_at 953 (by decide +kernel) (by decide +kernel)
theorem v_i954 : Cond.instanceMethod yX11_loudness ∈ wU := w_at 954 (by decide +kernel) (by decide +kernel)
theorem v_i955 : Cond.selects RX11 yX11_loudness yX11_loudness ∈ wU := w_at 955 (by decide +kernel) (by decide +kernel)
theorem vl_L_115 : ∀ w ∈ ([.methodLink RL 115 yX11_loudness, .instanceMethod yX11_loudness, .selects RX11 yX11_loudness yX11_loudness, .initialized RX11] : List Cond), w ∈ wU := w_4 v_i953 v_i954 v_i955 v_i28
theorem kc_L_setPaper : Cond.codeWith yL_setPaper cL_setPaper 5 (some .int) [(0, 8, 9, 16)] ∈ wU := w_at 1287 (by decide +kernel) (by decide +kernel)
theorem hk_L_setPaper : yL_setPaper.cls = RL ∧ yL_setPaper.cls ≠ "java/lang/invoke/MethodHandle" ∧ yL_setPaper.cls ≠ "java/lang/invoke/VarHandle" ∧ (parseMethodDescriptor yL_setPaper.desc).map (fun d => d.parameters.length) = some 4 := by decide +kernel
theorem v_i1288 : Cond.methodLink RL 118 yX11_setPaper ∈ wU := w_at 1288 (by decide +kernel) (by decide +kernel)
theorem v_i1289 : Cond.instanceMethod yX11_setPaper ∈ wU := w_at 1289 (by decide +kernel) (by decide +kernel)
theorem v_i1290 : Cond.selects RX11 yX11_setPaper yX11_setPaper ∈ wU := w_at 1290 (by decide +kernel) (by decide +kernel)
theorem vl_L_118 : ∀ w ∈ ([.methodLink RL 118 yX11_setPaper, .instanceMethod yX11_setPaper, .selects RX11 yX11_setPaper yX11_setPaper, .initialized RX11] : List Cond), w ∈ wU := w_4 v_i1288 v_i1289 v_i1290 v_i28
theorem kc_L_items : Cond.codeWith yL_items cL_items 3 (some .int) [(0, 5, 6, 16), (0, 5, 10, 19)] ∈ wU := w_at 631 (by decide +kernel) (by decide +kernel)
theorem hk_L_items : yL_items.cls = RL ∧ yL_items.cls ≠ "java/lang/invoke/MethodHandle" ∧ yL_items.cls ≠ "java/lang/invoke/VarHandle" ∧ (parseMethodDescriptor yL_items.desc).map (fun d => d.parameters.length) = some 2 := by decide +kernel
theorem v_i633 : Cond.methodLink RL 122 yX11_items ∈ wU := w_at 633 (by decide +kernel) (by decide +kernel)
theorem v_i634 : Cond.instanceMethod yX11_items ∈ wU := w_at 634 (by decide +kernel) (by decide +kernel)
theorem v_i635 : Cond.selects RX11 yX11_items yX11_items ∈ wU := w_at 635 (by decide +kernel) (by decide +kernel)
theorem vl_L_122 : ∀ w ∈ ([.methodLink RL 122 yX11_items, .instanceMethod yX11_items, .selects RX11 yX11_items yX11_items, .initialized RX11] : List Cond), w ∈ wU := w_4 v_i633 v_i634 v_i635 v_i28
theorem kc_L_itemKind : Cond.codeWith yL_itemKind cL_itemKind 4 (some .int) [(0, 6, 7, 16), (0, 6, 11, 19), (0, 6, 15, 26)] ∈ wU := w_at 969 (by decide +kernel) (by decide +kernel)
theorem hk_L_itemKind : yL_itemKind.cls = RL ∧ yL_itemKind.cls ≠ "java/lang/invoke/MethodHandle" ∧ yL_itemKind.cls ≠ "java/lang/invoke/VarHandle" ∧ (parseMethodDescriptor yL_itemKind.desc).map (fun d => d.parameters.length) = some 3 := by decide +kernel
theorem v_i970 : Cond.methodLink RL 125 yX11_itemKind ∈ wU := w_at 970 (by decide +kernel) (by decide +kernel)
theorem v_i971 : Cond.instanceMethod yX11_itemKind ∈ wU := w_at 971 (by decide +kernel) (by decide +kernel)
theorem v_i972 : Cond.selects RX11 yX11_itemKind yX11_itemKind ∈ wU := w_at 972 (by decide +kernel) (by decide +kernel)
theorem vl_L_125 : ∀ w ∈ ([.methodLink RL 125 yX11_itemKind, .instanceMethod yX11_itemKind, .selects RX11 yX11_itemKind yX11_itemKind, .initialized RX11] : List Cond), w ∈ wU := w_4 v_i970 v_i971 v_i972 v_i28
theorem kc_L_itemBar : Cond.codeWith yL_itemBar cL_itemBar 4 (some .int) [(0, 6, 7, 16), (0, 6, 11, 19), (0, 6, 15, 26)] ∈ wU := w_at 990 (by decide +kernel) (by decide +kernel)
theorem hk_L_itemBar : yL_itemBar.cls = RL ∧ yL_itemBar.cls ≠ "java/lang/invoke/MethodHandle" ∧ yL_itemBar.cls ≠ "java/lang/invoke/VarHandle" ∧ (parseMethodDescriptor yL_itemBar.desc).map (fun d => d.parameters.length) = some 3 := by decide +kernel
theorem v_i991 : Cond.methodLink RL 128 yX11_itemBar ∈ wU := w_at 991 (by decide +kernel) (by decide +kernel)
theorem v_i992 : Cond.instanceMethod yX11_itemBar ∈ wU := w_at 992 (by decide +kernel) (by decide +kernel)
theorem v_i993 : Cond.selects RX11 yX11_itemBar yX11_itemBar ∈ wU := w_at 993 (by decide +kernel) (by decide +kernel)
theorem vl_L_128 : ∀ w ∈ ([.methodLink RL 128 yX11_itemBar, .instanceMethod yX11_itemBar, .selects RX11 yX11_itemBar yX11_itemBar, .initialized RX11] : List Cond), w ∈ wU := w_4 v_i991 v_i992 v_i993 v_i28
theorem kc_L_itemBars : Cond.codeWith yL_itemBars cL_itemBars 4 (some .int) [(0, 6, 7, 16), (0, 6, 11, 19), (0, 6, 15, 26)] ∈ wU := w_at 976 (by decide +kernel) (by decide +kernel)
theorem hk_L_itemBars : yL_itemBars.cls = RL ∧ yL_itemBars.cls ≠ "java/lang/invoke/MethodHandle" ∧ yL_itemBars.cls ≠ "java/lang/invoke/VarHandle" ∧ (parseMethodDescriptor yL_itemBars.desc).map (fun d => d.parameters.length) = some 3 := by decide +kernel
theorem v_i977 : Cond.methodLink RL 131 yX11_itemBars ∈ wU := w_at 977 (by decide +kernel) (by decide +kernel)
theorem v_i978 : Cond.instanceMethod yX11_itemBars ∈ wU := w_at 978 (by decide +kernel) (by decide +kernel)
theorem v_i979 : Cond.selects RX11 yX11_itemBars yX11_itemBars ∈ wU := w_at 979 (by decide +kernel) (by decide +kernel)
theorem vl_L_131 : ∀ w ∈ ([.methodLink RL 131 yX11_itemBars, .instanceMethod yX11_itemBars, .selects RX11 yX11_itemBars yX11_itemBars, .initialized RX11] : List Cond), w ∈ wU := w_4 v_i977 v_i978 v_i979 v_i28
theorem kc_L_cue : Cond.codeWith yL_cue cL_cue 4 (some .int) [(0, 6, 7, 16), (0, 6, 11, 19), (0, 6, 15, 26)] ∈ wU := w_at 983 (by decide +kernel) (by decide +kernel)
theorem hk_L_cue : yL_cue.cls = RL ∧ yL_cue.cls ≠ "java/lang/invoke/MethodHandle" ∧ yL_cue.cls ≠ "java/lang/invoke/VarHandle" ∧ (parseMethodDescriptor yL_cue.desc).map (fun d => d.parameters.length) = some 3 := by decide +kernel
theorem v_i984 : Cond.methodLink RL 134 yX11_cue ∈ wU := w_at 984 (by decide +kernel) (by decide +kernel)
theorem v_i985 : Cond.instanceMethod yX11_cue ∈ wU := w_at 985 (by decide +kernel) (by decide +kernel)
theorem v_i986 : Cond.selects RX11 yX11_cue yX11_cue ∈ wU := w_at 986 (by decide +kernel) (by decide +kernel)
theorem vl_L_134 : ∀ w ∈ ([.methodLink RL 134 yX11_cue, .instanceMethod yX11_cue, .selects RX11 yX11_cue yX11_cue, .initialized RX11] : List Cond), w ∈ wU := w_4 v_i984 v_i985 v_i986 v_i28
theorem kc_L_itemWidth : Cond.codeWith yL_itemWidth cL_itemWidth 4 (some .int) [(0, 6, 7, 16), (0, 6, 11, 19), (0, 6, 15, 26)] ∈ wU := w_at 997 (by decide +kernel) (by decide +kernel)
theorem hk_L_itemWidth : yL_itemWidth.cls = RL ∧ yL_itemWidth.cls ≠ "java/lang/invoke/MethodHandle" ∧ yL_itemWidth.cls ≠ "java/lang/invoke/VarHandle" ∧ (parseMethodDescriptor yL_itemWidth.desc).map (fun d => d.parameters.length) = some 3 := by decide +kernel
theorem v_i998 : Cond.methodLink RL 137 yX11_itemWidth ∈ wU := w_at 998 (by decide +kernel) (by decide +kernel)
theorem v_i999 : Cond.instanceMethod yX11_itemWidth ∈ wU := w_at 999 (by decide +kernel) (by decide +kernel)
theorem v_i1000 : Cond.selects RX11 yX11_itemWidth yX11_itemWidth ∈ wU := w_at 1000 (by decide +kernel) (by decide +kernel)
theorem vl_L_137 : ∀ w ∈ ([.methodLink RL 137 yX11_itemWidth, .instanceMethod yX11_itemWidth, .selects RX11 yX11_itemWidth yX11_itemWidth, .initialized RX11] : List Cond), w ∈ wU := w_4 v_i998 v_i999 v_i1000 v_i28
theorem kc_L_lines : Cond.codeWith yL_lines cL_lines 3 (some .int) [(0, 5, 6, 16), (0, 5, 10, 19)] ∈ wU := w_at 1021 (by decide +kernel) (by decide +kernel)
theorem hk_L_lines : yL_lines.cls = RL ∧ yL_lines.cls ≠ "java/lang/invoke/MethodHandle" ∧ yL_lines.cls ≠ "java/lang/invoke/VarHandle" ∧ (parseMethodDescriptor yL_lines.desc).map (fun d => d.parameters.length) = some 2 := by decide +kernel
theorem v_i1022 : Cond.methodLink RL 140 yX11_lines ∈ wU := w_at 1022 (by decide +kernel) (by decide +kernel)
theorem v_i1023 : Cond.instanceMethod yX11_lines ∈ wU := w_at 1023 (by decide +kernel) (by decide +kernel)
theorem v_i1024 : Cond.selects RX11 yX11_lines yX11_lines ∈ wU := w_at 1024 (by decide +kernel) (by decide +kernel)
theorem vl_L_140 : ∀ w ∈ ([.methodLink RL 140 yX11_lines, .instanceMethod yX11_lines, .selects RX11 yX11_lines yX11_lines, .initialized RX11] : List Cond), w ∈ wU := w_4 v_i1022 v_i1023 v_i1024 v_i28
theorem kc_L_firstItem : Cond.codeWith yL_firstItem cL_firstItem 4 (some .int) [(0, 6, 7, 16), (0, 6, 11, 19), (0, 6, 15, 26)] ∈ wU := w_at 1028 (by decide +kernel) (by decide +kernel)
theorem hk_L_firstItem : yL_firstItem.cls = RL ∧ yL_firstItem.cls ≠ "java/lang/invoke/MethodHandle" ∧ yL_firstItem.cls ≠ "java/lang/invoke/VarHandle" ∧ (parseMethodDescriptor yL_firstItem.desc).map (fun d => d.parameters.length) = some 3 := by decide +kernel
theorem v_i1029 : Cond.methodLink RL 143 yX11_firstItem ∈ wU := w_at 1029 (by decide +kernel) (by decide +kernel)
theorem v_i1030 : Cond.instanceMethod yX11_firstItem ∈ wU := w_at 1030 (by decide +kernel) (by decide +kernel)
theorem v_i1031 : Cond.selects RX11 yX11_firstItem yX11_firstItem ∈ wU := w_at 1031 (by decide +kernel) (by decide +kernel)
theorem vl_L_143 : ∀ w ∈ ([.methodLink RL 143 yX11_firstItem, .instanceMethod yX11_firstItem, .selects RX11 yX11_firstItem yX11_firstItem, .initialized RX11] : List Cond), w ∈ wU := w_4 v_i1029 v_i1030 v_i1031 v_i28
theorem kc_L_badness : Cond.codeWith yL_badness cL_badness 3 (some .int) [(0, 5, 6, 16), (0, 5, 10, 19)] ∈ wU := w_at 959 (by decide +kernel) (by decide +kernel)
theorem hk_L_badness : yL_badness.cls = RL ∧ yL_badness.cls ≠ "java/lang/invoke/MethodHandle" ∧ yL_badness.cls ≠ "java/lang/invoke/VarHandle" ∧ (parseMethodDescriptor yL_badness.desc).map (fun d => d.parameters.length) = some 2 := by decide +kernel
theorem v_i960 : Cond.methodLink RL 146 yX11_badness ∈ wU := w_at 960 (by decide +kernel) (by decide +kernel)
theorem v_i961 : Cond.instanceMethod yX11_badness ∈ wU := w_at 961 (by decide +kernel) (by decide +kernel)
theorem v_i962 : Cond.selects RX11 yX11_badness yX11_badness ∈ wU := w_at 962 (by decide +kernel) (by decide +kernel)
theorem vl_L_146 : ∀ w ∈ ([.methodLink RL 146 yX11_badness, .instanceMethod yX11_badness, .selects RX11 yX11_badness yX11_badness, .initialized RX11] : List Cond), w ∈ wU := w_4 v_i960 v_i961 v_i962 v_i28
theorem kc_L_pages : Cond.codeWith yL_pages cL_pages 3 (some .int) [(0, 5, 6, 16), (0, 5, 10, 19)] ∈ wU := w_at 1038 (by decide +kernel) (by decide +kernel)
theorem hk_L_pages : yL_pages.cls = RL ∧ yL_pages.cls ≠ "java/lang/invoke/MethodHandle" ∧ yL_pages.cls ≠ "java/lang/invoke/VarHandle" ∧ (parseMethodDescriptor yL_pages.desc).map (fun d => d.parameters.length) = some 2 := by decide +kernel
theorem v_i1039 : Cond.methodLink RL 149 yX11_pages ∈ wU := w_at 1039 (by decide +kernel) (by decide +kernel)
theorem v_i1040 : Cond.instanceMethod yX11_pages ∈ wU := w_at 1040 (by decide +kernel) (by decide +kernel)
theorem v_i1041 : Cond.selects RX11 yX11_pages yX11_pages ∈ wU := w_at 1041 (by decide +kernel) (by decide +kernel)
theorem vl_L_149 : ∀ w ∈ ([.methodLink RL 149 yX11_pages, .instanceMethod yX11_pages, .selects RX11 yX11_pages yX11_pages, .initialized RX11] : List Cond), w ∈ wU := w_4 v_i1039 v_i1040 v_i1041 v_i28
theorem kc_L_pageLines : Cond.codeWith yL_pageLines cL_pageLines 4 (some .int) [(0, 6, 7, 16), (0, 6, 11, 19), (0, 6, 15, 26)] ∈ wU := w_at 1045 (by decide +kernel) (by decide +kernel)
theorem hk_L_pageLines : yL_pageLines.cls = RL ∧ yL_pageLines.cls ≠ "java/lang/invoke/MethodHandle" ∧ yL_pageLines.cls ≠ "java/lang/invoke/VarHandle" ∧ (parseMethodDescriptor yL_pageLines.desc).map (fun d => d.parameters.length) = some 3 := by decide +kernel
theorem v_i1046 : Cond.methodLink RL 152 yX11_pageLines ∈ wU := w_at 1046 (by decide +kernel) (by decide +kernel)
theorem v_i1047 : Cond.instanceMethod yX11_pageLines ∈ wU := w_at 1047 (by decide +kernel) (by decide +kernel)
theorem v_i1048 : Cond.selects RX11 yX11_pageLines yX11_pageLines ∈ wU := w_at 1048 (by decide +kernel) (by decide +kernel)
theorem vl_L_152 : ∀ w ∈ ([.methodLink RL 152 yX11_pageLines, .instanceMethod yX11_pageLines, .selects RX11 yX11_pageLines yX11_pageLines, .initialized RX11] : List Cond), w ∈ wU := w_4 v_i1046 v_i1047 v_i1048 v_i28
theorem kc_L_pageOf : Cond.codeWith yL_pageOf cL_pageOf 4 (some .int) [(0, 6, 7, 16), (0, 6, 11, 19), (0, 6, 15, 26)] ∈ wU := w_at 1073 (by decide +kernel) (by decide +kernel)
theorem hk_L_pageOf : yL_pageOf.cls = RL ∧ yL_pageOf.cls ≠ "java/lang/invoke/MethodHandle" ∧ yL_pageOf.cls ≠ "java/lang/invoke/VarHandle" ∧ (parseMethodDescriptor yL_pageOf.desc).map (fun d => d.parameters.length) = some 3 := by decide +kernel
theorem v_i1074 : Cond.methodLink RL 155 yX11_pageOf ∈ wU := w_at 1074 (by decide +kernel) (by decide +kernel)
theorem v_i1075 : Cond.instanceMethod yX11_pageOf ∈ wU := w_at 1075 (by decide +kernel) (by decide +kernel)
theorem v_i1076 : Cond.selects RX11 yX11_pageOf yX11_pageOf ∈ wU := w_at 1076 (by decide +kernel) (by decide +kernel)
theorem vl_L_155 : ∀ w ∈ ([.methodLink RL 155 yX11_pageOf, .instanceMethod yX11_pageOf, .selects RX11 yX11_pageOf yX11_pageOf, .initialized RX11] : List Cond), w ∈ wU := w_4 v_i1074 v_i1075 v_i1076 v_i28
theorem kc_L_pageTurns : Cond.codeWith yL_pageTurns cL_pageTurns 3 (some .int) [(0, 5, 6, 16), (0, 5, 10, 19)] ∈ wU := w_at 1098 (by decide +kernel) (by decide +kernel)
theorem hk_L_pageTurns : yL_pageTurns.cls = RL ∧ yL_pageTurns.cls ≠ "java/lang/invoke/MethodHandle" ∧ yL_pageTurns.cls ≠ "java/lang/invoke/VarHandle" ∧ (parseMethodDescriptor yL_pageTurns.desc).map (fun d => d.parameters.length) = some 2 := by decide +kernel
theorem v_i1099 : Cond.methodLink RL 158 yX11_pageTurns ∈ wU := w_at 1099 (by decide +kernel) (by decide +kernel)
theorem v_i1100 : Cond.instanceMethod yX11_pageTurns ∈ wU := w_at 1100 (by decide +kernel) (by decide +kernel)
theorem v_i1101 : Cond.selects RX11 yX11_pageTurns yX11_pageTurns ∈ wU := w_at 1101 (by decide +kernel) (by decide +kernel)
theorem vl_L_158 : ∀ w ∈ ([.methodLink RL 158 yX11_pageTurns, .instanceMethod yX11_pageTurns, .selects RX11 yX11_pageTurns yX11_pageTurns, .initialized RX11] : List Cond), w ∈ wU := w_4 v_i1099 v_i1100 v_i1101 v_i28
theorem kc_L_turnBar : Cond.codeWith yL_turnBar cL_turnBar 4 (some .int) [(0, 6, 7, 16), (0, 6, 11, 19), (0, 6, 15, 26)] ∈ wU := w_at 1059 (by decide +kernel) (by decide +kernel)
theorem hk_L_turnBar : yL_turnBar.cls = RL ∧ yL_turnBar.cls ≠ "java/lang/invoke/MethodHandle" ∧ yL_turnBar.cls ≠ "java/lang/invoke/VarHandle" ∧ (parseMethodDescriptor yL_turnBar.desc).map (fun d => d.parameters.length) = some 3 := by decide +kernel
theorem v_i1060 : Cond.methodLink RL 161 yX11_turnBar ∈ wU := w_at 1060 (by decide +kernel) (by decide +kernel)
theorem v_i1061 : Cond.instanceMethod yX11_turnBar ∈ wU := w_at 1061 (by decide +kernel) (by decide +kernel)
theorem v_i1062 : Cond.selects RX11 yX11_turnBar yX11_turnBar ∈ wU := w_at 1062 (by decide +kernel) (by decide +kernel)
theorem vl_L_161 : ∀ w ∈ ([.methodLink RL 161 yX11_turnBar, .instanceMethod yX11_turnBar, .selects RX11 yX11_turnBar yX11_turnBar, .initialized RX11] : List Cond), w ∈ wU := w_4 v_i1060 v_i1061 v_i1062 v_i28
theorem kc_L_turnTime : Cond.codeWith yL_turnTime cL_turnTime 4 (some .int) [(0, 6, 7, 16), (0, 6, 11, 19), (0, 6, 15, 26)] ∈ wU := w_at 1066 (by decide +kernel) (by decide +kernel)
theorem hk_L_turnTime : yL_turnTime.cls = RL ∧ yL_turnTime.cls ≠ "java/lang/invoke/MethodHandle" ∧ yL_turnTime.cls ≠ "java/lang/invoke/VarHandle" ∧ (parseMethodDescriptor yL_turnTime.desc).map (fun d => d.parameters.length) = some 3 := by decide +kernel
theorem v_i1067 : Cond.methodLink RL 164 yX11_turnTime ∈ wU := w_at 1067 (by decide +kernel) (by decide +kernel)
theorem v_i1068 : Cond.instanceMethod yX11_turnTime ∈ wU := w_at 1068 (by decide +kernel) (by decide +kernel)
theorem v_i1069 : Cond.selects RX11 yX11_turnTime yX11_turnTime ∈ wU := w_at 1069 (by decide +kernel) (by decide +kernel)
theorem vl_L_164 : ∀ w ∈ ([.methodLink RL 164 yX11_turnTime, .instanceMethod yX11_turnTime, .selects RX11 yX11_turnTime yX11_turnTime, .initialized RX11] : List Cond), w ∈ wU := w_4 v_i1067 v_i1068 v_i1069 v_i28
theorem kc_L_turnRest : Cond.codeWith yL_turnRest cL_turnRest 4 (some .int) [(0, 6, 7, 16), (0, 6, 11, 19), (0, 6, 15, 26)] ∈ wU := w_at 1052 (by decide +kernel) (by decide +kernel)
theorem hk_L_turnRest : yL_turnRest.cls = RL ∧ yL_turnRest.cls ≠ "java/lang/invoke/MethodHandle" ∧ yL_turnRest.cls ≠ "java/lang/invoke/VarHandle" ∧ (parseMethodDescriptor yL_turnRest.desc).map (fun d => d.parameters.length) = some 3 := by decide +kernel
theorem v_i1053 : Cond.methodLink RL 167 yX11_turnRest ∈ wU := w_at 1053 (by decide +kernel) (by decide +kernel)
theorem v_i1054 : Cond.instanceMethod yX11_turnRest ∈ wU := w_at 1054 (by decide +kernel) (by decide +kernel)
theorem v_i1055 : Cond.selects RX11 yX11_turnRest yX11_turnRest ∈ wU := w_at 1055 (by decide +kernel) (by decide +kernel)
theorem vl_L_167 : ∀ w ∈ ([.methodLink RL 167 yX11_turnRest, .instanceMethod yX11_turnRest, .selects RX11 yX11_turnRest yX11_turnRest, .initialized RX11] : List Cond), w ∈ wU := w_4 v_i1053 v_i1054 v_i1055 v_i28
theorem kc_L_badTurns : Cond.codeWith yL_badTurns cL_badTurns 3 (some .int) [(0, 5, 6, 16), (0, 5, 10, 19)] ∈ wU := w_at 1105 (by decide +kernel) (by decide +kernel)
theorem hk_L_badTurns : yL_badTurns.cls = RL ∧ yL_badTurns.cls ≠ "java/lang/invoke/MethodHandle" ∧ yL_badTurns.cls ≠ "java/lang/invoke/VarHandle" ∧ (parseMethodDescriptor yL_badTurns.desc).map (fun d => d.parameters.length) = some 2 := by decide +kernel
theorem v_i1106 : Cond.methodLink RL 170 yX11_badTurns ∈ wU := w_at 1106 (by decide +kernel) (by decide +kernel)
theorem v_i1107 : Cond.instanceMethod yX11_badTurns ∈ wU := w_at 1107 (by decide +kernel) (by decide +kernel)
theorem v_i1108 : Cond.selects RX11 yX11_badTurns yX11_badTurns ∈ wU := w_at 1108 (by decide +kernel) (by decide +kernel)
theorem vl_L_170 : ∀ w ∈ ([.methodLink RL 170 yX11_badTurns, .instanceMethod yX11_badTurns, .selects RX11 yX11_badTurns yX11_badTurns, .initialized RX11] : List Cond), w ∈ wU := w_4 v_i1106 v_i1107 v_i1108 v_i28
theorem kc_L_sheets : Cond.codeWith yL_sheets cL_sheets 3 (some .int) [(0, 5, 6, 16), (0, 5, 10, 19)] ∈ wU := w_at 1088 (by decide +kernel) (by decide +kernel)
theorem hk_L_sheets : yL_sheets.cls = RL ∧ yL_sheets.cls ≠ "java/lang/invoke/MethodHandle" ∧ yL_sheets.cls ≠ "java/lang/invoke/VarHandle" ∧ (parseMethodDescriptor yL_sheets.desc).map (fun d => d.parameters.length) = some 2 := by decide +kernel
theorem v_i1089 : Cond.methodLink RL 173 yX11_sheets ∈ wU := w_at 1089 (by decide +kernel) (by decide +kernel)
theorem v_i1090 : Cond.instanceMethod yX11_sheets ∈ wU := w_at 1090 (by decide +kernel) (by decide +kernel)
theorem v_i1091 : Cond.selects RX11 yX11_sheets yX11_sheets ∈ wU := w_at 1091 (by decide +kernel) (by decide +kernel)
theorem vl_L_173 : ∀ w ∈ ([.methodLink RL 173 yX11_sheets, .instanceMethod yX11_sheets, .selects RX11 yX11_sheets yX11_sheets, .initialized RX11] : List Cond), w ∈ wU := w_4 v_i1089 v_i1090 v_i1091 v_i28
theorem kc_L_sheetPage : Cond.codeWith yL_sheetPage cL_sheetPage 6 (some .int) [(0, 9, 10, 16), (0, 9, 15, 19), (0, 9, 20, 26)] ∈ wU := w_at 1116 (by decide +kernel) (by decide +kernel)
theorem hk_L_sheetPage : yL_sheetPage.cls = RL ∧ yL_sheetPage.cls ≠ "java/lang/invoke/MethodHandle" ∧ yL_sheetPage.cls ≠ "java/lang/invoke/VarHandle" ∧ (parseMethodDescriptor yL_sheetPage.desc).map (fun d => d.parameters.length) = some 5 := by decide +kernel
theorem v_i1117 : Cond.methodLink RL 176 yX11_sheetPage ∈ wU := w_at 1117 (by decide +kernel) (by decide +kernel)
theorem v_i1118 : Cond.instanceMethod yX11_sheetPage ∈ wU := w_at 1118 (by decide +kernel) (by decide +kernel)
theorem v_i1119 : Cond.selects RX11 yX11_sheetPage yX11_sheetPage ∈ wU := w_at 1119 (by decide +kernel) (by decide +kernel)
theorem vl_L_176 : ∀ w ∈ ([.methodLink RL 176 yX11_sheetPage, .instanceMethod yX11_sheetPage, .selects RX11 yX11_sheetPage yX11_sheetPage, .initialized RX11] : List Cond), w ∈ wU := w_4 v_i1117 v_i1118 v_i1119 v_i28
theorem kc_L_ticksOf : Cond.code yL_ticksOf cL_ticksOf 3 (some .int) ∈ wU := w_at 1710 (by decide +kernel) (by decide +kernel)
theorem hk_L_ticksOf : yL_ticksOf.cls = RL ∧ yL_ticksOf.cls ≠ "java/lang/invoke/MethodHandle" ∧ yL_ticksOf.cls ≠ "java/lang/invoke/VarHandle" ∧ (parseMethodDescriptor yL_ticksOf.desc).map (fun d => d.parameters.length) = some 2 := by decide +kernel
theorem kc_L_isPlayed : Cond.code yL_isPlayed cL_isPlayed 8 (some .boolean) ∈ wU := w_at 453 (by decide +kernel) (by decide +kernel)
theorem hk_L_isPlayed : yL_isPlayed.cls = RL ∧ yL_isPlayed.cls ≠ "java/lang/invoke/MethodHandle" ∧ yL_isPlayed.cls ≠ "java/lang/invoke/VarHandle" ∧ (parseMethodDescriptor yL_isPlayed.desc).map (fun d => d.parameters.length) = some 2 := by decide +kernel
theorem v_i232 : Cond.methodLink RL 180 yX11_places ∈ wU := w_at 232 (by decide +kernel) (by decide +kernel)
theorem v_i233 : Cond.instanceMethod yX11_places ∈ wU := w_at 233 (by decide +kernel) (by decide +kernel)
theorem v_i234 : Cond.selects RX11 yX11_places yX11_places ∈ wU := w_at 234 (by decide +kernel) (by decide +kernel)
theorem vl_L_180 : ∀ w ∈ ([.methodLink RL 180 yX11_places, .instanceMethod yX11_places, .selects RX11 yX11_places yX11_places, .initialized RX11] : List Cond), w ∈ wU := w_4 v_i232 v_i233 v_i234 v_i28
theorem v_i570 : Cond.methodLink RL 197 yX11_playingTime ∈ wU := w_at 570 (by decide +kernel) (by decide +kernel)
theorem v_i571 : Cond.instanceMethod yX11_playingTime ∈ wU := w_at 571 (by decide +kernel) (by decide +kernel)
theorem v_i572 : Cond.selects RX11 yX11_playingTime yX11_playingTime ∈ wU := w_at 572 (by decide +kernel) (by decide +kernel)
theorem vl_L_197 : ∀ w ∈ ([.methodLink RL 197 yX11_playingTime, .instanceMethod yX11_playingTime, .selects RX11 yX11_playingTime yX11_playingTime, .initialized RX11] : List Cond), w ∈ wU := w_4 v_i570 v_i571 v_i572 v_i28
theorem v_i618 : Cond.methodLink RL 206 yL_timeByEvents ∈ wU := w_at 618 (by decide +kernel) (by decide +kernel)
theorem v_i619 : Cond.static yL_timeByEvents ∈ wU := w_at 619 (by decide +kernel) (by decide +kernel)
theorem v_i27 : Cond.initialized RL ∈ wU := w_at 27 (by decide +kernel) (by decide +kernel)
theorem vs_L_206 : ∀ w ∈ ([.methodLink RL 206 yL_timeByEvents, .static yL_timeByEvents, .initialized RL] : List Cond), w ∈ wU := w_3 v_i618 v_i619 v_i27
theorem v_i541 : Cond.methodLink RL 191 yL_time ∈ wU := w_at 541 (by decide +kernel) (by decide +kernel)
theorem v_i542 : Cond.static yL_time ∈ wU := w_at 542 (by decide +kernel) (by decide +kernel)
theorem vs_L_191 : ∀ w ∈ ([.methodLink RL 191 yL_time, .static yL_time, .initialized RL] : List Cond), w ∈ wU := w_3 v_i541 v_i542 v_i27
theorem v_i553 : Cond.methodLink RL 193 yL_length ∈ wU := w_at 553 (by decide +kernel) (by decide +kernel)
theorem v_i554 : Cond.static yL_length ∈ wU := w_at 554 (by decide +kernel) (by decide +kernel)
theorem vs_L_193 : ∀ w ∈ ([.methodLink RL 193 yL_length, .static yL_length, .initialized RL] : List Cond), w ∈ wU := w_3 v_i553 v_i554 v_i27
theorem v_i562 : Cond.methodLink RL 195 yL_tempo ∈ wU := w_at 562 (by decide +kernel) (by decide +kernel)
theorem v_i563 : Cond.static yL_tempo ∈ wU := w_at 563 (by decide +kernel) (by decide +kernel)
theorem vs_L_195 : ∀ w ∈ ([.methodLink RL 195 yL_tempo, .static yL_tempo, .initialized RL] : List Cond), w ∈ wU := w_3 v_i562 v_i563 v_i27
theorem v_i629 : Cond.methodLink RL 208 yL_items ∈ wU := w_at 629 (by decide +kernel) (by decide +kernel)
theorem v_i630 : Cond.static yL_items ∈ wU := w_at 630 (by decide +kernel) (by decide +kernel)
theorem vs_L_208 : ∀ w ∈ ([.methodLink RL 208 yL_items, .static yL_items, .initialized RL] : List Cond), w ∈ wU := w_3 v_i629 v_i630 v_i27
theorem v_i574 : Cond.methodLink RL 203 yL_isRight ∈ wU := w_at 574 (by decide +kernel) (by decide +kernel)
theorem v_i575 : Cond.static yL_isRight ∈ wU := w_at 575 (by decide +kernel) (by decide +kernel)
theorem vs_L_203 : ∀ w ∈ ([.methodLink RL 203 yL_isRight, .static yL_isRight, .initialized RL] : List Cond), w ∈ wU := w_3 v_i574 v_i575 v_i27
theorem v_i454 : Cond.methodLink RL 184 yL_barAt ∈ wU := w_at 454 (by decide +kernel) (by decide +kernel)
theorem v_i455 : Cond.static yL_barAt ∈ wU := w_at 455 (by decide +kernel) (by decide +kernel)
theorem vs_L_184 : ∀ w ∈ ([.methodLink RL 184 yL_barAt, .static yL_barAt, .initialized RL] : List Cond), w ∈ wU := w_3 v_i454 v_i455 v_i27
theorem v_i534 : Cond.methodLink RL 189 yL_startOf ∈ wU := w_at 534 (by decide +kernel) (by decide +kernel)
theorem v_i535 : Cond.static yL_startOf ∈ wU := w_at 535 (by decide +kernel) (by decide +kernel)
theorem vs_L_189 : ∀ w ∈ ([.methodLink RL 189 yL_startOf, .static yL_startOf, .initialized RL] : List Cond), w ∈ wU := w_3 v_i534 v_i535 v_i27
theorem v_i197 : Cond.methodLink RL 200 yX11_bars ∈ wU := w_at 197 (by decide +kernel) (by decide +kernel)
theorem v_i198 : Cond.instanceMethod yX11_bars ∈ wU := w_at 198 (by decide +kernel) (by decide +kernel)
theorem v_i199 : Cond.selects RX11 yX11_bars yX11_bars ∈ wU := w_at 199 (by decide +kernel) (by decide +kernel)
theorem vl_L_200 : ∀ w ∈ ([.methodLink RL 200 yX11_bars, .instanceMethod yX11_bars, .selects RX11 yX11_bars yX11_bars, .initialized RX11] : List Cond), w ∈ wU := w_4 v_i197 v_i198 v_i199 v_i28
theorem kc_L_areSounds : Cond.code yL_areSounds cL_areSounds 12 (some .boolean) ∈ wU := w_at 911 (by decide +kernel) (by decide +kernel)
theorem hk_L_areSounds : yL_areSounds.cls = RL ∧ yL_areSounds.cls ≠ "java/lang/invoke/MethodHandle" ∧ yL_areSounds.cls ≠ "java/lang/invoke/VarHandle" ∧ (parseMethodDescriptor yL_areSounds.desc).map (fun d => d.parameters.length) = some 2 := by decide +kernel
theorem v_i439 : Cond.methodLink RL 210 yX11_sounds ∈ wU := w_at 439 (by decide +kernel) (by decide +kernel)
theorem v_i440 : Cond.instanceMethod yX11_sounds ∈ wU := w_at 440 (by decide +kernel) (by decide +kernel)
theorem v_i441 : Cond.selects RX11 yX11_sounds yX11_sounds ∈ wU := w_at 441 (by decide +kernel) (by decide +kernel)
theorem vl_L_210 : ∀ w ∈ ([.methodLink RL 210 yX11_sounds, .instanceMethod yX11_sounds, .selects RX11 yX11_sounds yX11_sounds, .initialized RX11] : List Cond), w ∈ wU := w_4 v_i439 v_i440 v_i441 v_i28
theorem v_i912 : Cond.methodLink RL 213 yL_low ∈ wU := w_at 912 (by decide +kernel) (by decide +kernel)
theorem v_i913 : Cond.static yL_low ∈ wU := w_at 913 (by decide +kernel) (by decide +kernel)
theorem vs_L_213 : ∀ w ∈ ([.methodLink RL 213 yL_low, .static yL_low, .initialized RL] : List Cond), w ∈ wU := w_3 v_i912 v_i913 v_i27
theorem v_i916 : Cond.methodLink RL 216 yL_soundVoice ∈ wU := w_at 916 (by decide +kernel) (by decide +kernel)
theorem v_i917 : Cond.static yL_soundVoice ∈ wU := w_at 917 (by decide +kernel) (by decide +kernel)
theorem vs_L_216 : ∀ w ∈ ([.methodLink RL 216 yL_soundVoice, .static yL_soundVoice, .initialized RL] : List Cond), w ∈ wU := w_3 v_i916 v_i917 v_i27
theorem v_i929 : Cond.methodLink RL 218 yL_soundStart ∈ wU := w_at 929 (by decide +kernel) (by decide +kernel)
theorem v_i930 : Cond.static yL_soundStart ∈ wU := w_at 930 (by decide +kernel) (by decide +kernel)
theorem vs_L_218 : ∀ w ∈ ([.methodLink RL 218 yL_soundStart, .static yL_soundStart, .initialized RL] : List Cond), w ∈ wU := w_3 v_i929 v_i930 v_i27
theorem v_i936 : Cond.methodLink RL 220 yL_soundTime ∈ wU := w_at 936 (by decide +kernel) (by decide +kernel)
theorem v_i937 : Cond.static yL_soundTime ∈ wU := w_at 937 (by decide +kernel) (by decide +kernel)
theorem vs_L_220 : ∀ w ∈ ([.methodLink RL 220 yL_soundTime, .static yL_soundTime, .initialized RL] : List Cond), w ∈ wU := w_3 v_i936 v_i937 v_i27
theorem v_i943 : Cond.methodLink RL 222 yL_soundPitch ∈ wU := w_at 943 (by decide +kernel) (by decide +kernel)
theorem v_i944 : Cond.static yL_soundPitch ∈ wU := w_at 944 (by decide +kernel) (by decide +kernel)
theorem vs_L_222 : ∀ w ∈ ([.methodLink RL 222 yL_soundPitch, .static yL_soundPitch, .initialized RL] : List Cond), w ∈ wU := w_3 v_i943 v_i944 v_i27
theorem v_i950 : Cond.methodLink RL 224 yL_loudness ∈ wU := w_at 950 (by decide +kernel) (by decide +kernel)
theorem v_i951 : Cond.static yL_loudness ∈ wU := w_at 951 (by decide +kernel) (by decide +kernel)
theorem vs_L_224 : ∀ w ∈ ([.methodLink RL 224 yL_loudness, .static yL_loudness, .initialized RL] : List Cond), w ∈ wU := w_3 v_i950 v_i951 v_i27
theorem kc_L_areItems : Cond.code yL_areItems cL_areItems 11 (some .boolean) ∈ wU := w_at 966 (by decide +kernel) (by decide +kernel)
theorem hk_L_areItems : yL_areItems.cls = RL ∧ yL_areItems.cls ≠ "java/lang/invoke/MethodHandle" ∧ yL_areItems.cls ≠ "java/lang/invoke/VarHandle" ∧ (parseMethodDescriptor yL_areItems.desc).map (fun d => d.parameters.length) = some 3 := by decide +kernel
theorem v_i967 : Cond.methodLink RL 226 yL_itemKind ∈ wU := w_at 967 (by decide +kernel) (by decide +kernel)
theorem v_i968 : Cond.static yL_itemKind ∈ wU := w_at 968 (by decide +kernel) (by decide +kernel)
theorem vs_L_226 : ∀ w ∈ ([.methodLink RL 226 yL_itemKind, .static yL_itemKind, .initialized RL] : List Cond), w ∈ wU := w_3 v_i967 v_i968 v_i27
theorem v_i988 : Cond.methodLink RL 232 yL_itemBar ∈ wU := w_at 988 (by decide +kernel) (by decide +kernel)
theorem v_i989 : Cond.static yL_itemBar ∈ wU := w_at 989 (by decide +kernel) (by decide +kernel)
theorem vs_L_232 : ∀ w ∈ ([.methodLink RL 232 yL_itemBar, .static yL_itemBar, .initialized RL] : List Cond), w ∈ wU := w_3 v_i988 v_i989 v_i27
theorem v_i974 : Cond.methodLink RL 228 yL_itemBars ∈ wU := w_at 974 (by decide +kernel) (by decide +kernel)
theorem v_i975 : Cond.static yL_itemBars ∈ wU := w_at 975 (by decide +kernel) (by decide +kernel)
theorem vs_L_228 : ∀ w ∈ ([.methodLink RL 228 yL_itemBars, .static yL_itemBars, .initialized RL] : List Cond), w ∈ wU := w_3 v_i974 v_i975 v_i27
theorem v_i981 : Cond.methodLink RL 230 yL_cue ∈ wU := w_at 981 (by decide +kernel) (by decide +kernel)
theorem v_i982 : Cond.static yL_cue ∈ wU := w_at 982 (by decide +kernel) (by decide +kernel)
theorem vs_L_230 : ∀ w ∈ ([.methodLink RL 230 yL_cue, .static yL_cue, .initialized RL] : List Cond), w ∈ wU := w_3 v_i981 v_i982 v_i27
theorem v_i995 : Cond.methodLink RL 234 yL_itemWidth ∈ wU := w_at 995 (by decide +kernel) (by decide +kernel)
theorem v_i996 : Cond.static yL_itemWidth ∈ wU := w_at 996 (by decide +kernel) (by decide +kernel)
theorem vs_L_234 : ∀ w ∈ ([.methodLink RL 234 yL_itemWidth, .static yL_itemWidth, .initialized RL] : List Cond), w ∈ wU := w_3 v_i995 v_i996 v_i27
theorem v_i1002 : Cond.methodLink RL 236 yL_events ∈ wU := w_at 1002 (by decide +kernel) (by decide +kernel)
theorem v_i1003 : Cond.static yL_events ∈ wU := w_at 1003 (by decide +kernel) (by decide +kernel)
theorem vs_L_236 : ∀ w ∈ ([.methodLink RL 236 yL_events, .static yL_events, .initialized RL] : List Cond), w ∈ wU := w_3 v_i1002 v_i1003 v_i27
theorem kc_L_badOf : Cond.code yL_badOf cL_badOf 4 (some .int) ∈ wU := w_at 1017 (by decide +kernel) (by decide +kernel)
theorem hk_L_badOf : yL_badOf.cls = RL ∧ yL_badOf.cls ≠ "java/lang/invoke/MethodHandle" ∧ yL_badOf.cls ≠ "java/lang/invoke/VarHandle" ∧ (parseMethodDescriptor yL_badOf.desc).map (fun d => d.parameters.length) = some 3 := by decide +kernel
theorem v_i1018 : Cond.constant RL 238 1000000 ∈ wU := w_at 1018 (by decide +kernel) (by decide +kernel)
theorem kc_L_areLines : Cond.code yL_areLines cL_areLines 11 (some .boolean) ∈ wU := w_at 1013 (by decide +kernel) (by decide +kernel)
theorem hk_L_areLines : yL_areLines.cls = RL ∧ yL_areLines.cls ≠ "java/lang/invoke/MethodHandle" ∧ yL_areLines.cls ≠ "java/lang/invoke/VarHandle" ∧ (parseMethodDescriptor yL_areLines.desc).map (fun d => d.parameters.length) = some 3 := by decide +kernel
theorem v_i1019 : Cond.methodLink RL 244 yL_lines ∈ wU := w_at 1019 (by decide +kernel) (by decide +kernel)
theorem v_i1020 : Cond.static yL_lines ∈ wU := w_at 1020 (by decide +kernel) (by decide +kernel)
theorem vs_L_244 : ∀ w ∈ ([.methodLink RL 244 yL_lines, .static yL_lines, .initialized RL] : List Cond), w ∈ wU := w_3 v_i1019 v_i1020 v_i27
theorem v_i957 : Cond.methodLink RL 248 yL_badness ∈ wU := w_at 957 (by decide +kernel) (by decide +kernel)
theorem v_i958 : Cond.static yL_badness ∈ wU := w_at 958 (by decide +kernel) (by decide +kernel)
theorem vs_L_248 : ∀ w ∈ ([.methodLink RL 248 yL_badness, .static yL_badness, .initialized RL] : List Cond), w ∈ wU := w_3 v_i957 v_i958 v_i27
theorem v_i1026 : Cond.methodLink RL 246 yL_firstItem ∈ wU := w_at 1026 (by decide +kernel) (by decide +kernel)
theorem v_i1027 : Cond.static yL_firstItem ∈ wU := w_at 1027 (by decide +kernel) (by decide +kernel)
theorem vs_L_246 : ∀ w ∈ ([.methodLink RL 246 yL_firstItem, .static yL_firstItem, .initialized RL] : List Cond), w ∈ wU := w_3 v_i1026 v_i1027 v_i27
theorem v_i1015 : Cond.methodLink RL 240 yL_badOf ∈ wU := w_at 1015 (by decide +kernel) (by decide +kernel)
theorem v_i1016 : Cond.static yL_badOf ∈ wU := w_at 1016 (by decide +kernel) (by decide +kernel)
theorem vs_L_240 : ∀ w ∈ ([.methodLink RL 240 yL_badOf, .static yL_badOf, .initialized RL] : List Cond), w ∈ wU := w_3 v_i1015 v_i1016 v_i27
theorem v_i1014 : Cond.constant RL 239 1000000000 ∈ wU := w_at 1014 (by decide +kernel) (by decide +kernel)
theorem kc_L_arePages : Cond.code yL_arePages cL_arePages 14 (some .boolean) ∈ wU := w_at 1035 (by decide +kernel) (by decide +kernel)
theorem hk_L_arePages : yL_arePages.cls = RL ∧ yL_arePages.cls ≠ "java/lang/invoke/MethodHandle" ∧ yL_arePages.cls ≠ "java/lang/invoke/VarHandle" ∧ (parseMethodDescriptor yL_arePages.desc).map (fun d => d.parameters.length) = some 3 := by decide +kernel
theorem v_i1036 : Cond.methodLink RL 250 yL_pages ∈ wU := w_at 1036 (by decide +kernel) (by decide +kernel)
theorem v_i1037 : Cond.static yL_pages ∈ wU := w_at 1037 (by decide +kernel) (by decide +kernel)
theorem vs_L_250 : ∀ w ∈ ([.methodLink RL 250 yL_pages, .static yL_pages, .initialized RL] : List Cond), w ∈ wU := w_3 v_i1036 v_i1037 v_i27
theorem v_i1086 : Cond.methodLink RL 262 yL_sheets ∈ wU := w_at 1086 (by decide +kernel) (by decide +kernel)
theorem v_i1087 : Cond.static yL_sheets ∈ wU := w_at 1087 (by decide +kernel) (by decide +kernel)
theorem vs_L_262 : ∀ w ∈ ([.methodLink RL 262 yL_sheets, .static yL_sheets, .initialized RL] : List Cond), w ∈ wU := w_3 v_i1086 v_i1087 v_i27
theorem v_i1043 : Cond.methodLink RL 252 yL_pageLines ∈ wU := w_at 1043 (by decide +kernel) (by decide +kernel)
theorem v_i1044 : Cond.static yL_pageLines ∈ wU := w_at 1044 (by decide +kernel) (by decide +kernel)
theorem vs_L_252 : ∀ w ∈ ([.methodLink RL 252 yL_pageLines, .static yL_pageLines, .initialized RL] : List Cond), w ∈ wU := w_3 v_i1043 v_i1044 v_i27
theorem v_i1057 : Cond.methodLink RL 256 yL_turnBar ∈ wU := w_at 1057 (by decide +kernel) (by decide +kernel)
theorem v_i1058 : Cond.static yL_turnBar ∈ wU := w_at 1058 (by decide +kernel) (by decide +kernel)
theorem vs_L_256 : ∀ w ∈ ([.methodLink RL 256 yL_turnBar, .static yL_turnBar, .initialized RL] : List Cond), w ∈ wU := w_3 v_i1057 v_i1058 v_i27
theorem v_i1064 : Cond.methodLink RL 258 yL_turnTime ∈ wU := w_at 1064 (by decide +kernel) (by decide +kernel)
theorem v_i1065 : Cond.static yL_turnTime ∈ wU := w_at 1065 (by decide +kernel) (by decide +kernel)
theorem vs_L_258 : ∀ w ∈ ([.methodLink RL 258 yL_turnTime, .static yL_turnTime, .initialized RL] : List Cond), w ∈ wU := w_3 v_i1064 v_i1065 v_i27
theorem v_i1050 : Cond.methodLink RL 254 yL_turnRest ∈ wU := w_at 1050 (by decide +kernel) (by decide +kernel)
theorem v_i1051 : Cond.static yL_turnRest ∈ wU := w_at 1051 (by decide +kernel) (by decide +kernel)
theorem vs_L_254 : ∀ w ∈ ([.methodLink RL 254 yL_turnRest, .static yL_turnRest, .initialized RL] : List Cond), w ∈ wU := w_3 v_i1050 v_i1051 v_i27
theorem v_i1071 : Cond.methodLink RL 260 yL_pageOf ∈ wU := w_at 1071 (by decide +kernel) (by decide +kernel)
theorem v_i1072 : Cond.static yL_pageOf ∈ wU := w_at 1072 (by decide +kernel) (by decide +kernel)
theorem vs_L_260 : ∀ w ∈ ([.methodLink RL 260 yL_pageOf, .static yL_pageOf, .initialized RL] : List Cond), w ∈ wU := w_3 v_i1071 v_i1072 v_i27
theorem v_i1114 : Cond.methodLink RL 268 yL_sheetPage ∈ wU := w_at 1114 (by decide +kernel) (by decide +kernel)
theorem v_i1115 : Cond.static yL_sheetPage ∈ wU := w_at 1115 (by decide +kernel) (by decide +kernel)
theorem vs_L_268 : ∀ w ∈ ([.methodLink RL 268 yL_sheetPage, .static yL_sheetPage, .initialized RL] : List Cond), w ∈ wU := w_3 v_i1114 v_i1115 v_i27
theorem v_i1096 : Cond.methodLink RL 264 yL_pageTurns ∈ wU := w_at 1096 (by decide +kernel) (by decide +kernel)
theorem v_i1097 : Cond.static yL_pageTurns ∈ wU := w_at 1097 (by decide +kernel) (by decide +kernel)
theorem vs_L_264 : ∀ w ∈ ([.methodLink RL 264 yL_pageTurns, .static yL_pageTurns, .initialized RL] : List Cond), w ∈ wU := w_3 v_i1096 v_i1097 v_i27
theorem v_i1103 : Cond.methodLink RL 266 yL_badTurns ∈ wU := w_at 1103 (by decide +kernel) (by decide +kernel)
theorem v_i1104 : Cond.static yL_badTurns ∈ wU := w_at 1104 (by decide +kernel) (by decide +kernel)
theorem vs_L_266 : ∀ w ∈ ([.methodLink RL 266 yL_badTurns, .static yL_badTurns, .initialized RL] : List Cond), w ∈ wU := w_3 v_i1103 v_i1104 v_i27
theorem kc_L_isSo : Cond.code yL_isSo cL_isSo 6 (some .boolean) ∈ wU := w_at 450 (by decide +kernel) (by decide +kernel)
theorem hk_L_isSo : yL_isSo.cls = RL ∧ yL_isSo.cls ≠ "java/lang/invoke/MethodHandle" ∧ yL_isSo.cls ≠ "java/lang/invoke/VarHandle" ∧ (parseMethodDescriptor yL_isSo.desc).map (fun d => d.parameters.length) = some 3 := by decide +kernel
theorem v_i451 : Cond.methodLink RL 271 yL_isPlayed ∈ wU := w_at 451 (by decide +kernel) (by decide +kernel)
theorem v_i452 : Cond.static yL_isPlayed ∈ wU := w_at 452 (by decide +kernel) (by decide +kernel)
theorem vs_L_271 : ∀ w ∈ ([.methodLink RL 271 yL_isPlayed, .static yL_isPlayed, .initialized RL] : List Cond), w ∈ wU := w_3 v_i451 v_i452 v_i27
theorem v_i964 : Cond.methodLink RL 279 yL_areItems ∈ wU := w_at 964 (by decide +kernel) (by decide +kernel)
theorem v_i965 : Cond.static yL_areItems ∈ wU := w_at 965 (by decide +kernel) (by decide +kernel)
theorem vs_L_279 : ∀ w ∈ ([.methodLink RL 279 yL_areItems, .static yL_areItems, .initialized RL] : List Cond), w ∈ wU := w_3 v_i964 v_i965 v_i27
theorem v_i1011 : Cond.methodLink RL 283 yL_areLines ∈ wU := w_at 1011 (by decide +kernel) (by decide +kernel)
theorem v_i1012 : Cond.static yL_areLines ∈ wU := w_at 1012 (by decide +kernel) (by decide +kernel)
theorem vs_L_283 : ∀ w ∈ ([.methodLink RL 283 yL_areLines, .static yL_areLines, .initialized RL] : List Cond), w ∈ wU := w_3 v_i1011 v_i1012 v_i27
theorem v_i1033 : Cond.methodLink RL 286 yL_arePages ∈ wU := w_at 1033 (by decide +kernel) (by decide +kernel)
theorem v_i1034 : Cond.static yL_arePages ∈ wU := w_at 1034 (by decide +kernel) (by decide +kernel)
theorem vs_L_286 : ∀ w ∈ ([.methodLink RL 286 yL_arePages, .static yL_arePages, .initialized RL] : List Cond), w ∈ wU := w_3 v_i1033 v_i1034 v_i27
theorem v_i909 : Cond.methodLink RL 275 yL_areSounds ∈ wU := w_at 909 (by decide +kernel) (by decide +kernel)
theorem v_i910 : Cond.static yL_areSounds ∈ wU := w_at 910 (by decide +kernel) (by decide +kernel)
theorem vs_L_275 : ∀ w ∈ ([.methodLink RL 275 yL_areSounds, .static yL_areSounds, .initialized RL] : List Cond), w ∈ wU := w_3 v_i909 v_i910 v_i27
theorem kc_L_fills : Cond.code yL_fills cL_fills 12 (some .boolean) ∈ wU := w_at 1351 (by decide +kernel) (by decide +kernel)
theorem hk_L_fills : yL_fills.cls = RL ∧ yL_fills.cls ≠ "java/lang/invoke/MethodHandle" ∧ yL_fills.cls ≠ "java/lang/invoke/VarHandle" ∧ (parseMethodDescriptor yL_fills.desc).map (fun d => d.parameters.length) = some 6 := by decide +kernel
theorem v_i1185 : Cond.methodLink RL 289 yL_left ∈ wU := w_at 1185 (by decide +kernel) (by decide +kernel)
theorem v_i1186 : Cond.static yL_left ∈ wU := w_at 1186 (by decide +kernel) (by decide +kernel)
theorem vs_L_289 : ∀ w ∈ ([.methodLink RL 289 yL_left, .static yL_left, .initialized RL] : List Cond), w ∈ wU := w_3 v_i1185 v_i1186 v_i27
theorem v_i1352 : Cond.methodLink RL 291 yL_insert ∈ wU := w_at 1352 (by decide +kernel) (by decide +kernel)
theorem v_i1353 : Cond.static yL_insert ∈ wU := w_at 1353 (by decide +kernel) (by decide +kernel)
theorem vs_L_291 : ∀ w ∈ ([.methodLink RL 291 yL_insert, .static yL_insert, .initialized RL] : List Cond), w ∈ wU := w_3 v_i1352 v_i1353 v_i27
theorem v_i1657 : Cond.methodLink RL 294 yL_written ∈ wU := w_at 1657 (by decide +kernel) (by decide +kernel)
theorem v_i1658 : Cond.static yL_written ∈ wU := w_at 1658 (by decide +kernel) (by decide +kernel)
theorem vs_L_294 : ∀ w ∈ ([.methodLink RL 294 yL_written, .static yL_written, .initialized RL] : List Cond), w ∈ wU := w_3 v_i1657 v_i1658 v_i27
theorem kc_L_edits : Cond.code yL_edits cL_edits 19 (some .boolean) ∈ wU := w_at 1348 (by decide +kernel) (by decide +kernel)
theorem hk_L_edits : yL_edits.cls = RL ∧ yL_edits.cls ≠ "java/lang/invoke/MethodHandle" ∧ yL_edits.cls ≠ "java/lang/invoke/VarHandle" ∧ (parseMethodDescriptor yL_edits.desc).map (fun d => d.parameters.length) = some 5 := by decide +kernel
theorem v_i1349 : Cond.methodLink RL 297 yL_fills ∈ wU := w_at 1349 (by decide +kernel) (by decide +kernel)
theorem v_i1350 : Cond.static yL_fills ∈ wU := w_at 1350 (by decide +kernel) (by decide +kernel)
theorem vs_L_297 : ∀ w ∈ ([.methodLink RL 297 yL_fills, .static yL_fills, .initialized RL] : List Cond), w ∈ wU := w_3 v_i1349 v_i1350 v_i27
theorem v_i1708 : Cond.methodLink RL 311 yL_ticksOf ∈ wU := w_at 1708 (by decide +kernel) (by decide +kernel)
theorem v_i1709 : Cond.static yL_ticksOf ∈ wU := w_at 1709 (by decide +kernel) (by decide +kernel)
theorem vs_L_311 : ∀ w ∈ ([.methodLink RL 311 yL_ticksOf, .static yL_ticksOf, .initialized RL] : List Cond), w ∈ wU := w_3 v_i1708 v_i1709 v_i27
theorem v_i1685 : Cond.methodLink RL 303 yL_setMark ∈ wU := w_at 1685 (by decide +kernel) (by decide +kernel)
theorem v_i1686 : Cond.static yL_setMark ∈ wU := w_at 1686 (by decide +kernel) (by decide +kernel)
theorem vs_L_303 : ∀ w ∈ ([.methodLink RL 303 yL_setMark, .static yL_setMark, .initialized RL] : List Cond), w ∈ wU := w_3 v_i1685 v_i1686 v_i27
theorem v_i1692 : Cond.methodLink RL 306 yL_setTie ∈ wU := w_at 1692 (by decide +kernel) (by decide +kernel)
theorem v_i1693 : Cond.static yL_setTie ∈ wU := w_at 1693 (by decide +kernel) (by decide +kernel)
theorem vs_L_306 : ∀ w ∈ ([.methodLink RL 306 yL_setTie, .static yL_setTie, .initialized RL] : List Cond), w ∈ wU := w_3 v_i1692 v_i1693 v_i27
theorem v_i1700 : Cond.methodLink RL 309 yL_setPitch ∈ wU := w_at 1700 (by decide +kernel) (by decide +kernel)
theorem v_i1701 : Cond.static yL_setPitch ∈ wU := w_at 1701 (by decide +kernel) (by decide +kernel)
theorem vs_L_309 : ∀ w ∈ ([.methodLink RL 309 yL_setPitch, .static yL_setPitch, .initialized RL] : List Cond), w ∈ wU := w_3 v_i1700 v_i1701 v_i27
theorem v_i1665 : Cond.methodLink RL 301 yL_remove ∈ wU := w_at 1665 (by decide +kernel) (by decide +kernel)
theorem v_i1666 : Cond.static yL_remove ∈ wU := w_at 1666 (by decide +kernel) (by decide +kernel)
theorem vs_L_301 : ∀ w ∈ ([.methodLink RL 301 yL_remove, .static yL_remove, .initialized RL] : List Cond), w ∈ wU := w_3 v_i1665 v_i1666 v_i27
theorem kc_L_tells : Cond.code yL_tells cL_tells 12 (some .boolean) ∈ wU := w_at 1195 (by decide +kernel) (by decide +kernel)
theorem hk_L_tells : yL_tells.cls = RL ∧ yL_tells.cls ≠ "java/lang/invoke/MethodHandle" ∧ yL_tells.cls ≠ "java/lang/invoke/VarHandle" ∧ (parseMethodDescriptor yL_tells.desc).map (fun d => d.parameters.length) = some 5 := by decide +kernel
theorem v_i1196 : Cond.methodLink RL 314 yL_setTempo ∈ wU := w_at 1196 (by decide +kernel) (by decide +kernel)
theorem v_i1197 : Cond.static yL_setTempo ∈ wU := w_at 1197 (by decide +kernel) (by decide +kernel)
theorem vs_L_314 : ∀ w ∈ ([.methodLink RL 314 yL_setTempo, .static yL_setTempo, .initialized RL] : List Cond), w ∈ wU := w_3 v_i1196 v_i1197 v_i27
theorem v_i1203 : Cond.methodLink RL 316 yL_setMetre ∈ wU := w_at 1203 (by decide +kernel) (by decide +kernel)
theorem v_i1204 : Cond.static yL_setMetre ∈ wU := w_at 1204 (by decide +kernel) (by decide +kernel)
theorem vs_L_316 : ∀ w ∈ ([.methodLink RL 316 yL_setMetre, .static yL_setMetre, .initialized RL] : List Cond), w ∈ wU := w_3 v_i1203 v_i1204 v_i27
theorem v_i1217 : Cond.methodLink RL 318 yL_addRepeat ∈ wU := w_at 1217 (by decide +kernel) (by decide +kernel)
theorem v_i1218 : Cond.static yL_addRepeat ∈ wU := w_at 1218 (by decide +kernel) (by decide +kernel)
theorem vs_L_318 : ∀ w ∈ ([.methodLink RL 318 yL_addRepeat, .static yL_addRepeat, .initialized RL] : List Cond), w ∈ wU := w_3 v_i1217 v_i1218 v_i27
theorem v_i1252 : Cond.methodLink RL 320 yL_dropRepeat ∈ wU := w_at 1252 (by decide +kernel) (by decide +kernel)
theorem v_i1253 : Cond.static yL_dropRepeat ∈ wU := w_at 1253 (by decide +kernel) (by decide +kernel)
theorem vs_L_320 : ∀ w ∈ ([.methodLink RL 320 yL_dropRepeat, .static yL_dropRepeat, .initialized RL] : List Cond), w ∈ wU := w_3 v_i1252 v_i1253 v_i27
theorem v_i1270 : Cond.methodLink RL 322 yL_transpose ∈ wU := w_at 1270 (by decide +kernel) (by decide +kernel)
theorem v_i1271 : Cond.static yL_transpose ∈ wU := w_at 1271 (by decide +kernel) (by decide +kernel)
theorem vs_L_322 : ∀ w ∈ ([.methodLink RL 322 yL_transpose, .static yL_transpose, .initialized RL] : List Cond), w ∈ wU := w_3 v_i1270 v_i1271 v_i27
theorem v_i1285 : Cond.methodLink RL 324 yL_setPaper ∈ wU := w_at 1285 (by decide +kernel) (by decide +kernel)
theorem v_i1286 : Cond.static yL_setPaper ∈ wU := w_at 1286 (by decide +kernel) (by decide +kernel)
theorem vs_L_324 : ∀ w ∈ ([.methodLink RL 324 yL_setPaper, .static yL_setPaper, .initialized RL] : List Cond), w ∈ wU := w_3 v_i1285 v_i1286 v_i27
theorem v_i1292 : Cond.methodLink RL 326 yL_allowTurn ∈ wU := w_at 1292 (by decide +kernel) (by decide +kernel)
theorem v_i1293 : Cond.static yL_allowTurn ∈ wU := w_at 1293 (by decide +kernel) (by decide +kernel)
theorem vs_L_326 : ∀ w ∈ ([.methodLink RL 326 yL_allowTurn, .static yL_allowTurn, .initialized RL] : List Cond), w ∈ wU := w_3 v_i1292 v_i1293 v_i27
theorem v_i209 : Cond.methodLink RL 329 yX11_phrases ∈ wU := w_at 209 (by decide +kernel) (by decide +kernel)
theorem v_i210 : Cond.instanceMethod yX11_phrases ∈ wU := w_at 210 (by decide +kernel) (by decide +kernel)
theorem v_i211 : Cond.selects RX11 yX11_phrases yX11_phrases ∈ wU := w_at 211 (by decide +kernel) (by decide +kernel)
theorem vl_L_329 : ∀ w ∈ ([.methodLink RL 329 yX11_phrases, .instanceMethod yX11_phrases, .selects RX11 yX11_phrases yX11_phrases, .initialized RX11] : List Cond), w ∈ wU := w_4 v_i209 v_i210 v_i211 v_i28
theorem v_i1299 : Cond.methodLink RL 332 yL_addPhrase ∈ wU := w_at 1299 (by decide +kernel) (by decide +kernel)
theorem v_i1300 : Cond.static yL_addPhrase ∈ wU := w_at 1300 (by decide +kernel) (by decide +kernel)
theorem vs_L_332 : ∀ w ∈ ([.methodLink RL 332 yL_addPhrase, .static yL_addPhrase, .initialized RL] : List Cond), w ∈ wU := w_3 v_i1299 v_i1300 v_i27
theorem v_i1339 : Cond.methodLink RL 335 yL_dropPhrase ∈ wU := w_at 1339 (by decide +kernel) (by decide +kernel)
theorem v_i1340 : Cond.static yL_dropPhrase ∈ wU := w_at 1340 (by decide +kernel) (by decide +kernel)
theorem vs_L_335 : ∀ w ∈ ([.methodLink RL 335 yL_dropPhrase, .static yL_dropPhrase, .initialized RL] : List Cond), w ∈ wU := w_3 v_i1339 v_i1340 v_i27
theorem kc_L_acts : Cond.code yL_acts cL_acts 8 (some .boolean) ∈ wU := w_at 1123 (by decide +kernel) (by decide +kernel)
theorem hk_L_acts : yL_acts.cls = RL ∧ yL_acts.cls ≠ "java/lang/invoke/MethodHandle" ∧ yL_acts.cls ≠ "java/lang/invoke/VarHandle" ∧ (parseMethodDescriptor yL_acts.desc).map (fun d => d.parameters.length) = some 5 := by decide +kernel
theorem v_i1124 : Cond.methodLink RL 337 yL_addBar ∈ wU := w_at 1124 (by decide +kernel) (by decide +kernel)
theorem v_i1125 : Cond.static yL_addBar ∈ wU := w_at 1125 (by decide +kernel) (by decide +kernel)
theorem vs_L_337 : ∀ w ∈ ([.methodLink RL 337 yL_addBar, .static yL_addBar, .initialized RL] : List Cond), w ∈ wU := w_3 v_i1124 v_i1125 v_i27
theorem v_i1193 : Cond.methodLink RL 339 yL_tells ∈ wU := w_at 1193 (by decide +kernel) (by decide +kernel)
theorem v_i1194 : Cond.static yL_tells ∈ wU := w_at 1194 (by decide +kernel) (by decide +kernel)
theorem vs_L_339 : ∀ w ∈ ([.methodLink RL 339 yL_tells, .static yL_tells, .initialized RL] : List Cond), w ∈ wU := w_3 v_i1193 v_i1194 v_i27
theorem v_i1346 : Cond.methodLink RL 343 yL_edits ∈ wU := w_at 1346 (by decide +kernel) (by decide +kernel)
theorem v_i1347 : Cond.static yL_edits ∈ wU := w_at 1347 (by decide +kernel) (by decide +kernel)
theorem vs_L_343 : ∀ w ∈ ([.methodLink RL 343 yL_edits, .static yL_edits, .initialized RL] : List Cond), w ∈ wU := w_3 v_i1346 v_i1347 v_i27
def w_L_addBar (B : Nat × Nat) (o : Nat) (a1 : Int32) (a2 : Int32) (t : LwS) (Q : Int32 → LwS → Prop) : Prop := kdC t.1 o = 14 ∧ w_X11_addBar B o a1 a2 t.1 (fun r S' => Q r (S', t.2)) (fun E S' => (E = "java/lang/IllegalArgumentException" ∧ Q (-1000002) (S', t.2)) ∨ (E = "java/lang/IllegalStateException" ∧ Q (-1000003) (S', t.2)))
theorem c_L_addBar (l : Launch) (D : va_G) (K : Nat → ClassId) (E0 b0 : Nat) (B : Nat × Nat) (o : Nat) (a1 : Int32) (a2 : Int32) (t : LwS) (Q : Int32 → LwS → Prop) (h : w_L_addBar B o a1 a2 t Q) : MetR l yL_addBar (.codeWith yL_addBar cL_addBar 4 (some .int) [(0, 6, 7, 16), (0, 6, 11, 19)]) 9 [.ref o, .int a1, .int a2] Q D K E0 b0 B t := by
  obtain ⟨hk, h⟩ := h
  refine gr_startH (by decide) rfl (Nat.le_of_ble_eq_true rfl) (fun p e s m args below meth c C htab Em => ?_)
  refine gr_aloadn C 0 0 dL_addBar_0 rfl rfl ?_
  refine gr_iloadn C 1 1 dL_addBar_1 rfl rfl ?_
  refine gr_iloadn C 2 2 dL_addBar_2 rfl rfl ?_
  refine gr_room (fun hr => ?_)
  refine gr_call C (y := yX11_addBar) (as := [.int a1, .int a2]) (by exact ⟨Nat.le_of_ble_eq_true rfl, Nat.le_of_ble_eq_true rfl⟩) B ⟨Nat.le_refl _, Nat.le_refl _⟩ hr (c_X11_addBar l D K E0 B _ o a1 a2 t.1 _ _ h) hk_X11_addBar rfl vl_L_10 kc_X11_addBar (isC_of hk (by decide)) dL_addBar_3 (Nat.le_of_ble_eq_true rfl) ?hx ?hn
  case hx =>
    rintro E S' hx _ _
    rcases hx with ⟨rfl, h⟩ | ⟨rfl, h⟩
    · refine gr_catch C htab [] (0, 6, 7, 16) [(0, 6, 11, 19)] rfl (fun _ h9 => absurd h9 List.not_mem_nil) (by decide +kernel) (by decide) (by decide) v_i577 n_i590 (fun q => ?_)
      refine gr_astoren C 3 [(3, .ref q), (0, .ref o), (1, .int a1), (2, .int a2)] dL_addBar_7 rfl (by decide) rfl ?_
      refine gr_ldc C (-1000002) v_i617 dL_addBar_8 ?_
      exact gr_iret C Em dL_addBar_10 h
    · refine gr_catch C htab [(0, 6, 7, 16)] (0, 6, 11, 19) [] rfl (List.forall_mem_cons.mpr ⟨⟨by decide, "java/lang/IllegalArgumentException", v_i577, by decide +kernel, by decide +kernel⟩, fun _ h9 => absurd h9 List.not_mem_nil⟩) (by decide +kernel) (by decide) (by decide) v_i632 n_i649 (fun q => ?_)
      refine gr_astoren C 3 [(3, .ref q), (0, .ref o), (1, .int a1), (2, .int a2)] dL_addBar_11 rfl (by decide) rfl ?_
      refine gr_ldc C (-1000003) v_i908 dL_addBar_12 ?_
      exact gr_iret C Em dL_addBar_14 h
  case hn =>
    rintro v S' ⟨r, rfl, h⟩ _ _ _
    exact gr_iret C Em dL_addBar_6 h
def w_L_setMetre (B : Nat × Nat) (o : Nat) (a1 : Int32) (a2 : Int32) (a3 : Int32) (t : LwS) (Q : Int32 → LwS → Prop) : Prop := kdC t.1 o = 14 ∧ w_X11_setMetre B o a1 a2 a3 t.1 (fun r S' => Q r (S', t.2)) (fun E S' => (E = "java/lang/IndexOutOfBoundsException" ∧ Q (-1000001) (S', t.2)) ∨ (E = "java/lang/IllegalArgumentException" ∧ Q (-1000002) (S', t.2)) ∨ (E = "java/lang/IllegalStateException" ∧ Q (-1000003) (S', t.2)))
theorem c_L_setMetre (l : Launch) (D : va_G) (K : Nat → ClassId) (E0 b0 : Nat) (B : Nat × Nat) (o : Nat) (a1 : Int32) (a2 : Int32) (a3 : Int32) (t : LwS) (Q : Int32 → LwS → Prop) (h : w_L_setMetre B o a1 a2 a3 t Q) : MetR l yL_setMetre (.codeWith yL_setMetre cL_setMetre 5 (some .int) [(0, 7, 8, 26), (0, 7, 13, 16), (0, 7, 18, 19)]) 9 [.ref o, .int a1, .int a2, .int a3] Q D K E0 b0 B t := by
  obtain ⟨hk, h⟩ := h
  refine gr_startH (by decide) rfl (Nat.le_of_ble_eq_true rfl) (fun p e s m args below meth c C htab Em => ?_)
  refine gr_aloadn C 0 0 dL_setMetre_0 rfl rfl ?_
  refine gr_iloadn C 1 1 dL_setMetre_1 rfl rfl ?_
  refine gr_iloadn C 2 2 dL_setMetre_2 rfl rfl ?_
  refine gr_iloadn C 3 3 dL_setMetre_3 rfl rfl ?_
  refine gr_room (fun hr => ?_)
  refine gr_call C (y := yX11_setMetre) (as := [.int a1, .int a2, .int a3]) (by exact ⟨Nat.le_of_ble_eq_true rfl, Nat.le_of_ble_eq_true rfl⟩) B ⟨Nat.le_refl _, Nat.le_refl _⟩ hr (c_X11_setMetre l D K E0 B _ o a1 a2 a3 t.1 _ _ h) hk_X11_setMetre rfl vl_L_22 kc_X11_setMetre (isC_of hk (by decide)) dL_setMetre_4 (Nat.le_of_ble_eq_true rfl) ?hx ?hn
  case hx =>
    rintro E S' hx _ _
    rcases hx with ⟨rfl, h⟩ | ⟨rfl, h⟩ | ⟨rfl, h⟩
    · refine gr_catch C htab [] (0, 7, 8, 26) [(0, 7, 13, 16), (0, 7, 18, 19)] rfl (fun _ h9 => absurd h9 List.not_mem_nil) (by decide +kernel) (by decide) (by decide) v_i457 n_i467 (fun q => ?_)
      refine gr_astore C [(4, .ref q), (0, .ref o), (1, .int a1), (2, .int a2), (3, .int a3)] dL_setMetre_8 (by decide) rfl ?_
      refine gr_ldc C (-1000001) v_i533 dL_setMetre_10 ?_
      exact gr_iret C Em dL_setMetre_12 h
    · refine gr_catch C htab [(0, 7, 8, 26)] (0, 7, 13, 16) [(0, 7, 18, 19)] rfl (List.forall_mem_cons.mpr ⟨⟨by decide, "java/lang/IndexOutOfBoundsException", v_i457, by decide +kernel, by decide +kernel⟩, fun _ h9 => absurd h9 List.not_mem_nil⟩) (by decide +kernel) (by decide) (by decide) v_i577 n_i590 (fun q => ?_)
      refine gr_astore C [(4, .ref q), (0, .ref o), (1, .int a1), (2, .int a2), (3, .int a3)] dL_setMetre_13 (by decide) rfl ?_
      refine gr_ldc C (-1000002) v_i617 dL_setMetre_15 ?_
      exact gr_iret C Em dL_setMetre_17 h
    · refine gr_catch C htab [(0, 7, 8, 26), (0, 7, 13, 16)] (0, 7, 18, 19) [] rfl (List.forall_mem_cons.mpr ⟨⟨by decide, "java/lang/IndexOutOfBoundsException", v_i457, by decide +kernel, by decide +kernel⟩, List.forall_mem_cons.mpr ⟨⟨by decide, "java/lang/IllegalArgumentException", v_i577, by decide +kernel, by decide +kernel⟩, fun _ h9 => absurd h9 List.not_mem_nil⟩⟩) (by decide +kernel) (by decide) (by decide) v_i632 n_i649 (fun q => ?_)
      refine gr_astore C [(4, .ref q), (0, .ref o), (1, .int a1), (2, .int a2), (3, .int a3)] dL_setMetre_18 (by decide) rfl ?_
      refine gr_ldc C (-1000003) v_i908 dL_setMetre_20 ?_
      exact gr_iret C Em dL_setMetre_22 h
  case hn =>
    rintro v S' ⟨r, rfl, h⟩ _ _ _
    exact gr_iret C Em dL_setMetre_7 h
def w_L_setTempo (B : Nat × Nat) (o : Nat) (a1 : Int32) (a2 : Int32) (t : LwS) (Q : Int32 → LwS → Prop) : Prop := kdC t.1 o = 14 ∧ w_X11_setTempo B o a1 a2 t.1 (fun r S' => Q r (S', t.2)) (fun E S' => (E = "java/lang/IndexOutOfBoundsException" ∧ Q (-1000001) (S', t.2)) ∨ (E = "java/lang/IllegalArgumentException" ∧ Q (-1000002) (S', t.2)))
theorem c_L_setTempo (l : Launch) (D : va_G) (K : Nat → ClassId) (E0 b0 : Nat) (B : Nat × Nat) (o : Nat) (a1 : Int32) (a2 : Int32) (t : LwS) (Q : Int32 → LwS → Prop) (h : w_L_setTempo B o a1 a2 t Q) : MetR l yL_setTempo (.codeWith yL_setTempo cL_setTempo 4 (some .int) [(0, 6, 7, 26), (0, 6, 11, 16)]) 9 [.ref o, .int a1, .int a2] Q D K E0 b0 B t := by
  obtain ⟨hk, h⟩ := h
  refine gr_startH (by decide) rfl (Nat.le_of_ble_eq_true rfl) (fun p e s m args below meth c C htab Em => ?_)
  refine gr_aloadn C 0 0 dL_setTempo_0 rfl rfl ?_
  refine gr_iloadn C 1 1 dL_setTempo_1 rfl rfl ?_
  refine gr_iloadn C 2 2 dL_setTempo_2 rfl rfl ?_
  refine gr_room (fun hr => ?_)
  refine gr_call C (y := yX11_setTempo) (as := [.int a1, .int a2]) (by exact ⟨Nat.le_of_ble_eq_true rfl, Nat.le_of_ble_eq_true rfl⟩) B ⟨Nat.le_refl _, Nat.le_refl _⟩ hr (c_X11_setTempo l D K E0 B _ o a1 a2 t.1 _ _ h) hk_X11_setTempo rfl vl_L_29 kc_X11_setTempo (isC_of hk (by decide)) dL_setTempo_3 (Nat.le_of_ble_eq_true rfl) ?hx ?hn
  case hx =>
    rintro E S' hx _ _
    rcases hx with ⟨rfl, h⟩ | ⟨rfl, h⟩
    · refine gr_catch C htab [] (0, 6, 7, 26) [(0, 6, 11, 16)] rfl (fun _ h9 => absurd h9 List.not_mem_nil) (by decide +kernel) (by decide) (by decide) v_i457 n_i467 (fun q => ?_)
      refine gr_astoren C 3 [(3, .ref q), (0, .ref o), (1, .int a1), (2, .int a2)] dL_setTempo_7 rfl (by decide) rfl ?_
      refine gr_ldc C (-1000001) v_i533 dL_setTempo_8 ?_
      exact gr_iret C Em dL_setTempo_10 h
    · refine gr_catch C htab [(0, 6, 7, 26)] (0, 6, 11, 16) [] rfl (List.forall_mem_cons.mpr ⟨⟨by decide, "java/lang/IndexOutOfBoundsException", v_i457, by decide +kernel, by decide +kernel⟩, fun _ h9 => absurd h9 List.not_mem_nil⟩) (by decide +kernel) (by decide) (by decide) v_i577 n_i590 (fun q => ?_)
      refine gr_astoren C 3 [(3, .ref q), (0, .ref o), (1, .int a1), (2, .int a2)] dL_setTempo_11 rfl (by decide) rfl ?_
      refine gr_ldc C (-1000002) v_i617 dL_setTempo_12 ?_
      exact gr_iret C Em dL_setTempo_14 h
  case hn =>
    rintro v S' ⟨r, rfl, h⟩ _ _ _
    exact gr_iret C Em dL_setTempo_6 h
def w_L_length (B : Nat × Nat) (o : Nat) (a1 : Int32) (t : LwS) (Q : Int32 → LwS → Prop) : Prop := kdC t.1 o = 14 ∧ w_X11_length B o a1 t.1 (fun r S' => Q r (S', t.2)) (fun E S' => (E = "java/lang/IndexOutOfBoundsException" ∧ Q (-1000001) (S', t.2)))
theorem c_L_length (l : Launch) (D : va_G) (K : Nat → ClassId) (E0 b0 : Nat) (B : Nat × Nat) (o : Nat) (a1 : Int32) (t : LwS) (Q : Int32 → LwS → Prop) (h : w_L_length B o a1 t Q) : MetR l yL_length (.codeWith yL_length cL_length 3 (some .int) [(0, 5, 6, 26)]) 9 [.ref o, .int a1] Q D K E0 b0 B t := by
  obtain ⟨hk, h⟩ := h
  refine gr_startH (by decide) rfl (Nat.le_of_ble_eq_true rfl) (fun p e s m args below meth c C htab Em => ?_)
  refine gr_aloadn C 0 0 dL_length_0 rfl rfl ?_
  refine gr_iloadn C 1 1 dL_length_1 rfl rfl ?_
  refine gr_room (fun hr => ?_)
  refine gr_call C (y := yX11_length) (as := [.int a1]) (by exact ⟨Nat.le_of_ble_eq_true rfl, Nat.le_of_ble_eq_true rfl⟩) B ⟨Nat.le_refl _, Nat.le_refl _⟩ hr (c_X11_length l D K E0 B _ o a1 t.1 _ _ h) hk_X11_length rfl vl_L_32 kc_X11_length (isC_of hk (by decide)) dL_length_2 (Nat.le_of_ble_eq_true rfl) ?hx ?hn
  case hx =>
    rintro E S' hx _ _
    rcases hx with ⟨rfl, h⟩
    · refine gr_catch C htab [] (0, 5, 6, 26) [] rfl (fun _ h9 => absurd h9 List.not_mem_nil) (by decide +kernel) (by decide) (by decide) v_i457 n_i467 (fun q => ?_)
      refine gr_astoren C 2 [(2, .ref q), (0, .ref o), (1, .int a1)] dL_length_6 rfl (by decide) rfl ?_
      refine gr_ldc C (-1000001) v_i533 dL_length_7 ?_
      exact gr_iret C Em dL_length_9 h
  case hn =>
    rintro v S' ⟨r, rfl, h⟩ _ _ _
    exact gr_iret C Em dL_length_5 h
def w_L_tempo (B : Nat × Nat) (o : Nat) (a1 : Int32) (t : LwS) (Q : Int32 → LwS → Prop) : Prop := kdC t.1 o = 14 ∧ w_X11_tempo B o a1 t.1 (fun r S' => Q r (S', t.2)) (fun E S' => (E = "java/lang/IndexOutOfBoundsException" ∧ Q (-1000001) (S', t.2)))
theorem c_L_tempo (l : Launch) (D : va_G) (K : Nat → ClassId) (E0 b0 : Nat) (B : Nat × Nat) (o : Nat) (a1 : Int32) (t : LwS) (Q : Int32 → LwS → Prop) (h : w_L_tempo B o a1 t Q) : MetR l yL_tempo (.codeWith yL_tempo cL_tempo 3 (some .int) [(0, 5, 6, 26)]) 9 [.ref o, .int a1] Q D K E0 b0 B t := by
  obtain ⟨hk, h⟩ := h
  refine gr_startH (by decide) rfl (Nat.le_of_ble_eq_true rfl) (fun p e s m args below meth c C htab Em => ?_)
  refine gr_aloadn C 0 0 dL_tempo_0 rfl rfl ?_
  refine gr_iloadn C 1 1 dL_tempo_1 rfl rfl ?_
  refine gr_room (fun hr => ?_)
  refine gr_call C (y := yX11_tempo) (as := [.int a1]) (by exact ⟨Nat.le_of_ble_eq_true rfl, Nat.le_of_ble_eq_true rfl⟩) B ⟨Nat.le_refl _, Nat.le_refl _⟩ hr (c_X11_tempo l D K E0 B _ o a1 t.1 _ _ h) hk_X11_tempo rfl vl_L_36 kc_X11_tempo (isC_of hk (by decide)) dL_tempo_2 (Nat.le_of_ble_eq_true rfl) ?hx ?hn
  case hx =>
    rintro E S' hx _ _
    rcases hx with ⟨rfl, h⟩
    · refine gr_catch C htab [] (0, 5, 6, 26) [] rfl (fun _ h9 => absurd h9 List.not_mem_nil) (by decide +kernel) (by decide) (by decide) v_i457 n_i467 (fun q => ?_)
      refine gr_astoren C 2 [(2, .ref q), (0, .ref o), (1, .int a1)] dL_tempo_6 rfl (by decide) rfl ?_
      refine gr_ldc C (-1000001) v_i533 dL_tempo_7 ?_
      exact gr_iret C Em dL_tempo_9 h
  case hn =>
    rintro v S' ⟨r, rfl, h⟩ _ _ _
    exact gr_iret C Em dL_tempo_5 h
def w_L_time (B : Nat × Nat) (o : Nat) (a1 : Int32) (t : LwS) (Q : Int32 → LwS → Prop) : Prop := kdC t.1 o = 14 ∧ w_X11_time B o a1 t.1 (fun r S' => Q r (S', t.2)) (fun E S' => (E = "java/lang/IndexOutOfBoundsException" ∧ Q (-1000001) (S', t.2)))
theorem c_L_time (l : Launch) (D : va_G) (K : Nat → ClassId) (E0 b0 : Nat) (B : Nat × Nat) (o : Nat) (a1 : Int32) (t : LwS) (Q : Int32 → LwS → Prop) (h : w_L_time B o a1 t Q) : MetR l yL_time (.codeWith yL_time cL_time 3 (some .int) [(0, 5, 6, 26)]) 9 [.ref o, .int a1] Q D K E0 b0 B t := by
  obtain ⟨hk, h⟩ := h
  refine gr_startH (by decide) rfl (Nat.le_of_ble_eq_true rfl) (fun p e s m args below meth c C htab Em => ?_)
  refine gr_aloadn C 0 0 dL_time_0 rfl rfl ?_
  refine gr_iloadn C 1 1 dL_time_1 rfl rfl ?_
  refine gr_room (fun hr => ?_)
  refine gr_call C (y := yX11_time) (as := [.int a1]) (by exact ⟨Nat.le_of_ble_eq_true rfl, Nat.le_of_ble_eq_true rfl⟩) B ⟨Nat.le_refl _, Nat.le_refl _⟩ hr (c_X11_time l D K E0 B _ o a1 t.1 _ _ h) hk_X11_time rfl vl_L_39 kc_X11_time (isC_of hk (by decide)) dL_time_2 (Nat.le_of_ble_eq_true rfl) ?hx ?hn
  case hx =>
    rintro E S' hx _ _
    rcases hx with ⟨rfl, h⟩
    · refine gr_catch C htab [] (0, 5, 6, 26) [] rfl (fun _ h9 => absurd h9 List.not_mem_nil) (by decide +kernel) (by decide) (by decide) v_i457 n_i467 (fun q => ?_)
      refine gr_astoren C 2 [(2, .ref q), (0, .ref o), (1, .int a1)] dL_time_6 rfl (by decide) rfl ?_
      refine gr_ldc C (-1000001) v_i533 dL_time_7 ?_
      exact gr_iret C Em dL_time_9 h
  case hn =>
    rintro v S' ⟨r, rfl, h⟩ _ _ _
    exact gr_iret C Em dL_time_5 h
def w_L_insert (B : Nat × Nat) (o : Nat) (a1 : Int32) (a2 : Int32) (a3 : Int32) (a4 : Int32) (a5 : Int32) (a6 : Int32) (t : LwS) (Q : Int32 → LwS → Prop) : Prop := kdC t.1 o = 14 ∧ w_X11_insert B o a1 a2 a3 a4 a5 a6 t.1 (fun r S' => Q r (S', t.2)) (fun E S' => (E = "java/lang/IllegalArgumentException" ∧ Q (-1000002) (S', t.2)) ∨ (E = "java/lang/IndexOutOfBoundsException" ∧ Q (-1000001) (S', t.2)) ∨ (E = "java/lang/IllegalStateException" ∧ Q (-1000003) (S', t.2)))
theorem c_L_insert (l : Launch) (D : va_G) (K : Nat → ClassId) (E0 b0 : Nat) (B : Nat × Nat) (o : Nat) (a1 : Int32) (a2 : Int32) (a3 : Int32) (a4 : Int32) (a5 : Int32) (a6 : Int32) (t : LwS) (Q : Int32 → LwS → Prop) (h : w_L_insert B o a1 a2 a3 a4 a5 a6 t Q) : MetR l yL_insert (.codeWith yL_insert cL_insert 8 (some .int) [(0, 13, 14, 16), (0, 13, 19, 26), (0, 13, 24, 19)]) 9 [.ref o, .int a1, .int a2, .int a3, .int a4, .int a5, .int a6] Q D K E0 b0 B t := by
  obtain ⟨hk, h⟩ := h
  refine gr_startH (by decide) rfl (Nat.le_of_ble_eq_true rfl) (fun p e s m args below meth c C htab Em => ?_)
  refine gr_aloadn C 0 0 dL_insert_0 rfl rfl ?_
  refine gr_iloadn C 1 1 dL_insert_1 rfl rfl ?_
  refine gr_iloadn C 2 2 dL_insert_2 rfl rfl ?_
  refine gr_iloadn C 3 3 dL_insert_3 rfl rfl ?_
  refine gr_iload C 4 dL_insert_4 rfl ?_
  refine gr_iload C 5 dL_insert_6 rfl ?_
  refine gr_iload C 6 dL_insert_8 rfl ?_
  refine gr_room (fun hr => ?_)
  refine gr_call C (y := yX11_insert) (as := [.int a1, .int a2, .int a3, .int a4, .int a5, .int a6]) (by exact ⟨Nat.le_of_ble_eq_true rfl, Nat.le_of_ble_eq_true rfl⟩) B ⟨Nat.le_refl _, Nat.le_refl _⟩ hr (c_X11_insert l D K E0 B _ o a1 a2 a3 a4 a5 a6 t.1 _ _ h) hk_X11_insert rfl vl_L_42 kc_X11_insert (isC_of hk (by decide)) dL_insert_10 (Nat.le_of_ble_eq_true rfl) ?hx ?hn
  case hx =>
    rintro E S' hx _ _
    rcases hx with ⟨rfl, h⟩ | ⟨rfl, h⟩ | ⟨rfl, h⟩
    · refine gr_catch C htab [] (0, 13, 14, 16) [(0, 13, 19, 26), (0, 13, 24, 19)] rfl (fun _ h9 => absurd h9 List.not_mem_nil) (by decide +kernel) (by decide) (by decide) v_i577 n_i590 (fun q => ?_)
      refine gr_astore C [(7, .ref q), (0, .ref o), (1, .int a1), (2, .int a2), (3, .int a3), (4, .int a4), (5, .int a5), (6, .int a6)] dL_insert_14 (by decide) rfl ?_
      refine gr_ldc C (-1000002) v_i617 dL_insert_16 ?_
      exact gr_iret C Em dL_insert_18 h
    · refine gr_catch C htab [(0, 13, 14, 16)] (0, 13, 19, 26) [(0, 13, 24, 19)] rfl (List.forall_mem_cons.mpr ⟨⟨by decide, "java/lang/IllegalArgumentException", v_i577, by decide +kernel, by decide +kernel⟩, fun _ h9 => absurd h9 List.not_mem_nil⟩) (by decide +kernel) (by decide) (by decide) v_i457 n_i467 (fun q => ?_)
      refine gr_astore C [(7, .ref q), (0, .ref o), (1, .int a1), (2, .int a2), (3, .int a3), (4, .int a4), (5, .int a5), (6, .int a6)] dL_insert_19 (by decide) rfl ?_
      refine gr_ldc C (-1000001) v_i533 dL_insert_21 ?_
      exact gr_iret C Em dL_insert_23 h
    · refine gr_catch C htab [(0, 13, 14, 16), (0, 13, 19, 26)] (0, 13, 24, 19) [] rfl (List.forall_mem_cons.mpr ⟨⟨by decide, "java/lang/IllegalArgumentException", v_i577, by decide +kernel, by decide +kernel⟩, List.forall_mem_cons.mpr ⟨⟨by decide, "java/lang/IndexOutOfBoundsException", v_i457, by decide +kernel, by decide +kernel⟩, fun _ h9 => absurd h9 List.not_mem_nil⟩⟩) (by decide +kernel) (by decide) (by decide) v_i632 n_i649 (fun q => ?_)
      refine gr_astore C [(7, .ref q), (0, .ref o), (1, .int a1), (2, .int a2), (3, .int a3), (4, .int a4), (5, .int a5), (6, .int a6)] dL_insert_24 (by decide) rfl ?_
      refine gr_ldc C (-1000003) v_i908 dL_insert_26 ?_
      exact gr_iret C Em dL_insert_28 h
  case hn =>
    rintro v S' ⟨r, rfl, h⟩ _ _ _
    exact gr_iret C Em dL_insert_13 h
def w_L_remove (B : Nat × Nat) (o : Nat) (a1 : Int32) (a2 : Int32) (a3 : Int32) (t : LwS) (Q : Int32 → LwS → Prop) : Prop := kdC t.1 o = 14 ∧ w_X11_remove B o a1 a2 a3 t.1 (fun r S' => Q r (S', t.2)) (fun E S' => (E = "java/lang/IllegalArgumentException" ∧ Q (-1000002) (S', t.2)) ∨ (E = "java/lang/IndexOutOfBoundsException" ∧ Q (-1000001) (S', t.2)))
theorem c_L_remove (l : Launch) (D : va_G) (K : Nat → ClassId) (E0 b0 : Nat) (B : Nat × Nat) (o : Nat) (a1 : Int32) (a2 : Int32) (a3 : Int32) (t : LwS) (Q : Int32 → LwS → Prop) (h : w_L_remove B o a1 a2 a3 t Q) : MetR l yL_remove (.codeWith yL_remove cL_remove 5 (some .int) [(0, 7, 8, 16), (0, 7, 13, 26)]) 10 [.ref o, .int a1, .int a2, .int a3] Q D K E0 b0 B t := by
  obtain ⟨hk, h⟩ := h
  refine gr_startH (by decide) rfl (Nat.le_of_ble_eq_true rfl) (fun p e s m args below meth c C htab Em => ?_)
  refine gr_aloadn C 0 0 dL_remove_0 rfl rfl ?_
  refine gr_iloadn C 1 1 dL_remove_1 rfl rfl ?_
  refine gr_iloadn C 2 2 dL_remove_2 rfl rfl ?_
  refine gr_iloadn C 3 3 dL_remove_3 rfl rfl ?_
  refine gr_room (fun hr => ?_)
  refine gr_call C (y := yX11_remove) (as := [.int a1, .int a2, .int a3]) (by exact ⟨Nat.le_of_ble_eq_true rfl, Nat.le_of_ble_eq_true rfl⟩) B ⟨Nat.le_refl _, Nat.le_refl _⟩ hr (c_X11_remove l D K E0 B _ o a1 a2 a3 t.1 _ _ h) hk_X11_remove rfl vl_L_46 kc_X11_remove (isC_of hk (by decide)) dL_remove_4 (Nat.le_of_ble_eq_true rfl) ?hx ?hn
  case hx =>
    rintro E S' hx _ _
    rcases hx with ⟨rfl, h⟩ | ⟨rfl, h⟩
    · refine gr_catch C htab [] (0, 7, 8, 16) [(0, 7, 13, 26)] rfl (fun _ h9 => absurd h9 List.not_mem_nil) (by decide +kernel) (by decide) (by decide) v_i577 n_i590 (fun q => ?_)
      refine gr_astore C [(4, .ref q), (0, .ref o), (1, .int a1), (2, .int a2), (3, .int a3)] dL_remove_8 (by decide) rfl ?_
      refine gr_ldc C (-1000002) v_i617 dL_remove_10 ?_
      exact gr_iret C Em dL_remove_12 h
    · refine gr_catch C htab [(0, 7, 8, 16)] (0, 7, 13, 26) [] rfl (List.forall_mem_cons.mpr ⟨⟨by decide, "java/lang/IllegalArgumentException", v_i577, by decide +kernel, by decide +kernel⟩, fun _ h9 => absurd h9 List.not_mem_nil⟩) (by decide +kernel) (by decide) (by decide) v_i457 n_i467 (fun q => ?_)
      refine gr_astore C [(4, .ref q), (0, .ref o), (1, .int a1), (2, .int a2), (3, .int a3)] dL_remove_13 (by decide) rfl ?_
      refine gr_ldc C (-1000001) v_i533 dL_remove_15 ?_
      exact gr_iret C Em dL_remove_17 h
  case hn =>
    rintro v S' ⟨r, rfl, h⟩ _ _ _
    exact gr_iret C Em dL_remove_7 h
def w_L_setPitch (B : Nat × Nat) (o : Nat) (a1 : Int32) (a2 : Int32) (a3 : Int32) (a4 : Int32) (t : LwS) (Q : Int32 → LwS → Prop) : Prop := kdC t.1 o = 14 ∧ w_X11_setPitch B o a1 a2 a3 a4 t.1 (fun r S' => Q r (S', t.2)) (fun E S' => (E = "java/lang/IllegalArgumentException" ∧ Q (-1000002) (S', t.2)) ∨ (E = "java/lang/IndexOutOfBoundsException" ∧ Q (-1000001) (S', t.2)) ∨ (E = "java/lang/IllegalStateException" ∧ Q (-1000003) (S', t.2)))
theorem c_L_setPitch (l : Launch) (D : va_G) (K : Nat → ClassId) (E0 b0 : Nat) (B : Nat × Nat) (o : Nat) (a1 : Int32) (a2 : Int32) (a3 : Int32) (a4 : Int32) (t : LwS) (Q : Int32 → LwS → Prop) (h : w_L_setPitch B o a1 a2 a3 a4 t Q) : MetR l yL_setPitch (.codeWith yL_setPitch cL_setPitch 6 (some .int) [(0, 9, 10, 16), (0, 9, 15, 26), (0, 9, 20, 19)]) 10 [.ref o, .int a1, .int a2, .int a3, .int a4] Q D K E0 b0 B t := by
  obtain ⟨hk, h⟩ := h
  refine gr_startH (by decide) rfl (Nat.le_of_ble_eq_true rfl) (fun p e s m args below meth c C htab Em => ?_)
  refine gr_aloadn C 0 0 dL_setPitch_0 rfl rfl ?_
  refine gr_iloadn C 1 1 dL_setPitch_1 rfl rfl ?_
  refine gr_iloadn C 2 2 dL_setPitch_2 rfl rfl ?_
  refine gr_iloadn C 3 3 dL_setPitch_3 rfl rfl ?_
  refine gr_iload C 4 dL_setPitch_4 rfl ?_
  refine gr_room (fun hr => ?_)
  refine gr_call C (y := yX11_setPitch) (as := [.int a1, .int a2, .int a3, .int a4]) (by exact ⟨Nat.le_of_ble_eq_true rfl, Nat.le_of_ble_eq_true rfl⟩) B ⟨Nat.le_refl _, Nat.le_refl _⟩ hr (c_X11_setPitch l D K E0 B _ o a1 a2 a3 a4 t.1 _ _ h) hk_X11_setPitch rfl vl_L_49 kc_X11_setPitch (isC_of hk (by decide)) dL_setPitch_6 (Nat.le_of_ble_eq_true rfl) ?hx ?hn
  case hx =>
    rintro E S' hx _ _
    rcases hx with ⟨rfl, h⟩ | ⟨rfl, h⟩ | ⟨rfl, h⟩
    · refine gr_catch C htab [] (0, 9, 10, 16) [(0, 9, 15, 26), (0, 9, 20, 19)] rfl (fun _ h9 => absurd h9 List.not_mem_nil) (by decide +kernel) (by decide) (by decide) v_i577 n_i590 (fun q => ?_)
      refine gr_astore C [(5, .ref q), (0, .ref o), (1, .int a1), (2, .int a2), (3, .int a3), (4, .int a4)] dL_setPitch_10 (by decide) rfl ?_
      refine gr_ldc C (-1000002) v_i617 dL_setPitch_12 ?_
      exact gr_iret C Em dL_setPitch_14 h
    · refine gr_catch C htab [(0, 9, 10, 16)] (0, 9, 15, 26) [(0, 9, 20, 19)] rfl (List.forall_mem_cons.mpr ⟨⟨by decide, "java/lang/IllegalArgumentException", v_i577, by decide +kernel, by decide +kernel⟩, fun _ h9 => absurd h9 List.not_mem_nil⟩) (by decide +kernel) (by decide) (by decide) v_i457 n_i467 (fun q => ?_)
      refine gr_astore C [(5, .ref q), (0, .ref o), (1, .int a1), (2, .int a2), (3, .int a3), (4, .int a4)] dL_setPitch_15 (by decide) rfl ?_
      refine gr_ldc C (-1000001) v_i533 dL_setPitch_17 ?_
      exact gr_iret C Em dL_setPitch_19 h
    · refine gr_catch C htab [(0, 9, 10, 16), (0, 9, 15, 26)] (0, 9, 20, 19) [] rfl (List.forall_mem_cons.mpr ⟨⟨by decide, "java/lang/IllegalArgumentException", v_i577, by decide +kernel, by decide +kernel⟩, List.forall_mem_cons.mpr ⟨⟨by decide, "java/lang/IndexOutOfBoundsException", v_i457, by decide +kernel, by decide +kernel⟩, fun _ h9 => absurd h9 List.not_mem_nil⟩⟩) (by decide +kernel) (by decide) (by decide) v_i632 n_i649 (fun q => ?_)
      refine gr_astore C [(5, .ref q), (0, .ref o), (1, .int a1), (2, .int a2), (3, .int a3), (4, .int a4)] dL_setPitch_20 (by decide) rfl ?_
      refine gr_ldc C (-1000003) v_i908 dL_setPitch_22 ?_
      exact gr_iret C Em dL_setPitch_24 h
  case hn =>
    rintro v S' ⟨r, rfl, h⟩ _ _ _
    exact gr_iret C Em dL_setPitch_9 h
def w_L_setTie (B : Nat × Nat) (o : Nat) (a1 : Int32) (a2 : Int32) (a3 : Int32) (a4 : Int32) (t : LwS) (Q : Int32 → LwS → Prop) : Prop := kdC t.1 o = 14 ∧ w_X11_setTie B o a1 a2 a3 a4 t.1 (fun r S' => (¬ r = 0 → Q 1 (S', t.2)) ∧ (r = 0 → Q 0 (S', t.2))) (fun E S' => (E = "java/lang/IllegalArgumentException" ∧ Q (-1000002) (S', t.2)) ∨ (E = "java/lang/IndexOutOfBoundsException" ∧ Q (-1000001) (S', t.2)) ∨ (E = "java/lang/IllegalStateException" ∧ Q (-1000003) (S', t.2)))
theorem c_L_setTie (l : Launch) (D : va_G) (K : Nat → ClassId) (E0 b0 : Nat) (B : Nat × Nat) (o : Nat) (a1 : Int32) (a2 : Int32) (a3 : Int32) (a4 : Int32) (t : LwS) (Q : Int32 → LwS → Prop) (h : w_L_setTie B o a1 a2 a3 a4 t Q) : MetR l yL_setTie (.codeWith yL_setTie cL_setTie 6 (some .int) [(0, 17, 18, 16), (0, 17, 23, 26), (0, 17, 28, 19)]) 10 [.ref o, .int a1, .int a2, .int a3, .int a4] Q D K E0 b0 B t := by
  obtain ⟨hk, h⟩ := h
  refine gr_startH (by decide) rfl (Nat.le_of_ble_eq_true rfl) (fun p e s m args below meth c C htab Em => ?_)
  refine gr_aloadn C 0 0 dL_setTie_0 rfl rfl ?_
  refine gr_iloadn C 1 1 dL_setTie_1 rfl rfl ?_
  refine gr_iloadn C 2 2 dL_setTie_2 rfl rfl ?_
  refine gr_iloadn C 3 3 dL_setTie_3 rfl rfl ?_
  refine gr_iload C 4 dL_setTie_4 rfl ?_
  refine gr_room (fun hr => ?_)
  refine gr_call C (y := yX11_setTie) (as := [.int a1, .int a2, .int a3, .int a4]) (by exact ⟨Nat.le_of_ble_eq_true rfl, Nat.le_of_ble_eq_true rfl⟩) B ⟨Nat.le_refl _, Nat.le_refl _⟩ hr (c_X11_setTie l D K E0 B _ o a1 a2 a3 a4 t.1 _ _ h) hk_X11_setTie rfl vl_L_53 kc_X11_setTie (isC_of hk (by decide)) dL_setTie_6 (Nat.le_of_ble_eq_true rfl) ?hx ?hn
  case hx =>
    rintro E S' hx _ _
    rcases hx with ⟨rfl, h⟩ | ⟨rfl, h⟩ | ⟨rfl, h⟩
    · refine gr_catch C htab [] (0, 17, 18, 16) [(0, 17, 23, 26), (0, 17, 28, 19)] rfl (fun _ h9 => absurd h9 List.not_mem_nil) (by decide +kernel) (by decide) (by decide) v_i577 n_i590 (fun q => ?_)
      refine gr_astore C [(5, .ref q), (0, .ref o), (1, .int a1), (2, .int a2), (3, .int a3), (4, .int a4)] dL_setTie_18 (by decide) rfl ?_
      refine gr_ldc C (-1000002) v_i617 dL_setTie_20 ?_
      exact gr_iret C Em dL_setTie_22 h
    · refine gr_catch C htab [(0, 17, 18, 16)] (0, 17, 23, 26) [(0, 17, 28, 19)] rfl (List.forall_mem_cons.mpr ⟨⟨by decide, "java/lang/IllegalArgumentException", v_i577, by decide +kernel, by decide +kernel⟩, fun _ h9 => absurd h9 List.not_mem_nil⟩) (by decide +kernel) (by decide) (by decide) v_i457 n_i467 (fun q => ?_)
      refine gr_astore C [(5, .ref q), (0, .ref o), (1, .int a1), (2, .int a2), (3, .int a3), (4, .int a4)] dL_setTie_23 (by decide) rfl ?_
      refine gr_ldc C (-1000001) v_i533 dL_setTie_25 ?_
      exact gr_iret C Em dL_setTie_27 h
    · refine gr_catch C htab [(0, 17, 18, 16), (0, 17, 23, 26)] (0, 17, 28, 19) [] rfl (List.forall_mem_cons.mpr ⟨⟨by decide, "java/lang/IllegalArgumentException", v_i577, by decide +kernel, by decide +kernel⟩, List.forall_mem_cons.mpr ⟨⟨by decide, "java/lang/IndexOutOfBoundsException", v_i457, by decide +kernel, by decide +kernel⟩, fun _ h9 => absurd h9 List.not_mem_nil⟩⟩) (by decide +kernel) (by decide) (by decide) v_i632 n_i649 (fun q => ?_)
      refine gr_astore C [(5, .ref q), (0, .ref o), (1, .int a1), (2, .int a2), (3, .int a3), (4, .int a4)] dL_setTie_28 (by decide) rfl ?_
      refine gr_ldc C (-1000003) v_i908 dL_setTie_30 ?_
      exact gr_iret C Em dL_setTie_32 h
  case hn =>
    rintro v S' ⟨r, rfl, h⟩ _ _ _
    refine gr_if_eq C 16 dL_setTie_9 (by decide) (fun c1 => ?_) (fun c1 => ?_)
    · refine gr_iconst C 0 dL_setTie_16 (by decide) ?_
      exact gr_iret C Em dL_setTie_17 (h.2 c1)
    · refine gr_iconst C 1 dL_setTie_12 (by decide) ?_
      refine gr_goto C 17 dL_setTie_13 (by decide) ?_
      exact gr_iret C Em dL_setTie_17 (h.1 c1)
def w_L_setMark (B : Nat × Nat) (o : Nat) (a1 : Int32) (a2 : Int32) (a3 : Int32) (a4 : Int32) (t : LwS) (Q : Int32 → LwS → Prop) : Prop := kdC t.1 o = 14 ∧ w_X11_setMark B o a1 a2 a3 a4 t.1 (fun r S' => Q r (S', t.2)) (fun E S' => (E = "java/lang/IllegalArgumentException" ∧ Q (-1000002) (S', t.2)) ∨ (E = "java/lang/IndexOutOfBoundsException" ∧ Q (-1000001) (S', t.2)))
theorem c_L_setMark (l : Launch) (D : va_G) (K : Nat → ClassId) (E0 b0 : Nat) (B : Nat × Nat) (o : Nat) (a1 : Int32) (a2 : Int32) (a3 : Int32) (a4 : Int32) (t : LwS) (Q : Int32 → LwS → Prop) (h : w_L_setMark B o a1 a2 a3 a4 t Q) : MetR l yL_setMark (.codeWith yL_setMark cL_setMark 6 (some .int) [(0, 9, 10, 16), (0, 9, 15, 26)]) 10 [.ref o, .int a1, .int a2, .int a3, .int a4] Q D K E0 b0 B t := by
  obtain ⟨hk, h⟩ := h
  refine gr_startH (by decide) rfl (Nat.le_of_ble_eq_true rfl) (fun p e s m args below meth c C htab Em => ?_)
  refine gr_aloadn C 0 0 dL_setMark_0 rfl rfl ?_
  refine gr_iloadn C 1 1 dL_setMark_1 rfl rfl ?_
  refine gr_iloadn C 2 2 dL_setMark_2 rfl rfl ?_
  refine gr_iloadn C 3 3 dL_setMark_3 rfl rfl ?_
  refine gr_iload C 4 dL_setMark_4 rfl ?_
  refine gr_room (fun hr => ?_)
  refine gr_call C (y := yX11_setMark) (as := [.int a1, .int a2, .int a3, .int a4]) (by exact ⟨Nat.le_of_ble_eq_true rfl, Nat.le_of_ble_eq_true rfl⟩) B ⟨Nat.le_refl _, Nat.le_refl _⟩ hr (c_X11_setMark l D K E0 B _ o a1 a2 a3 a4 t.1 _ _ h) hk_X11_setMark rfl vl_L_57 kc_X11_setMark (isC_of hk (by decide)) dL_setMark_6 (Nat.le_of_ble_eq_true rfl) ?hx ?hn
  case hx =>
    rintro E S' hx _ _
    rcases hx with ⟨rfl, h⟩ | ⟨rfl, h⟩
    · refine gr_catch C htab [] (0, 9, 10, 16) [(0, 9, 15, 26)] rfl (fun _ h9 => absurd h9 List.not_mem_nil) (by decide +kernel) (by decide) (by decide) v_i577 n_i590 (fun q => ?_)
      refine gr_astore C [(5, .ref q), (0, .ref o), (1, .int a1), (2, .int a2), (3, .int a3), (4, .int a4)] dL_setMark_10 (by decide) rfl ?_
      refine gr_ldc C (-1000002) v_i617 dL_setMark_12 ?_
      exact gr_iret C Em dL_setMark_14 h
    · refine gr_catch C htab [(0, 9, 10, 16)] (0, 9, 15, 26) [] rfl (List.forall_mem_cons.mpr ⟨⟨by decide, "java/lang/IllegalArgumentException", v_i577, by decide +kernel, by decide +kernel⟩, fun _ h9 => absurd h9 List.not_mem_nil⟩) (by decide +kernel) (by decide) (by decide) v_i457 n_i467 (fun q => ?_)
      refine gr_astore C [(5, .ref q), (0, .ref o), (1, .int a1), (2, .int a2), (3, .int a3), (4, .int a4)] dL_setMark_15 (by decide) rfl ?_
      refine gr_ldc C (-1000001) v_i533 dL_setMark_17 ?_
      exact gr_iret C Em dL_setMark_19 h
  case hn =>
    rintro v S' ⟨r, rfl, h⟩ _ _ _
    exact gr_iret C Em dL_setMark_9 h
def w_L_transpose (B : Nat × Nat) (o : Nat) (a1 : Int32) (a2 : Int32) (t : LwS) (Q : Int32 → LwS → Prop) : Prop := kdC t.1 o = 14 ∧ w_X11_transpose B o a1 a2 t.1 (fun r S' => Q r (S', t.2)) (fun E S' => (E = "java/lang/IllegalArgumentException" ∧ Q (-1000002) (S', t.2)) ∨ (E = "java/lang/IllegalStateException" ∧ Q (-1000003) (S', t.2)))
theorem c_L_transpose (l : Launch) (D : va_G) (K : Nat → ClassId) (E0 b0 : Nat) (B : Nat × Nat) (o : Nat) (a1 : Int32) (a2 : Int32) (t : LwS) (Q : Int32 → LwS → Prop) (h : w_L_transpose B o a1 a2 t Q) : MetR l yL_transpose (.codeWith yL_transpose cL_transpose 4 (some .int) [(0, 6, 7, 16), (0, 6, 11, 19)]) 9 [.ref o, .int a1, .int a2] Q D K E0 b0 B t := by
  obtain ⟨hk, h⟩ := h
  refine gr_startH (by decide) rfl (Nat.le_of_ble_eq_true rfl) (fun p e s m args below meth c C htab Em => ?_)
  refine gr_aloadn C 0 0 dL_transpose_0 rfl rfl ?_
  refine gr_iloadn C 1 1 dL_transpose_1 rfl rfl ?_
  refine gr_iloadn C 2 2 dL_transpose_2 rfl rfl ?_
  refine gr_room (fun hr => ?_)
  refine gr_call C (y := yX11_transpose) (as := [.int a1, .int a2]) (by exact ⟨Nat.le_of_ble_eq_true rfl, Nat.le_of_ble_eq_true rfl⟩) B ⟨Nat.le_refl _, Nat.le_refl _⟩ hr (c_X11_transpose l D K E0 B _ o a1 a2 t.1 _ _ h) hk_X11_transpose rfl vl_L_60 kc_X11_transpose (isC_of hk (by decide)) dL_transpose_3 (Nat.le_of_ble_eq_true rfl) ?hx ?hn
  case hx =>
    rintro E S' hx _ _
    rcases hx with ⟨rfl, h⟩ | ⟨rfl, h⟩
    · refine gr_catch C htab [] (0, 6, 7, 16) [(0, 6, 11, 19)] rfl (fun _ h9 => absurd h9 List.not_mem_nil) (by decide +kernel) (by decide) (by decide) v_i577 n_i590 (fun q => ?_)
      refine gr_astoren C 3 [(3, .ref q), (0, .ref o), (1, .int a1), (2, .int a2)] dL_transpose_7 rfl (by decide) rfl ?_
      refine gr_ldc C (-1000002) v_i617 dL_transpose_8 ?_
      exact gr_iret C Em dL_transpose_10 h
    · refine gr_catch C htab [(0, 6, 7, 16)] (0, 6, 11, 19) [] rfl (List.forall_mem_cons.mpr ⟨⟨by decide, "java/lang/IllegalArgumentException", v_i577, by decide +kernel, by decide +kernel⟩, fun _ h9 => absurd h9 List.not_mem_nil⟩) (by decide +kernel) (by decide) (by decide) v_i632 n_i649 (fun q => ?_)
      refine gr_astoren C 3 [(3, .ref q), (0, .ref o), (1, .int a1), (2, .int a2)] dL_transpose_11 rfl (by decide) rfl ?_
      refine gr_ldc C (-1000003) v_i908 dL_transpose_12 ?_
      exact gr_iret C Em dL_transpose_14 h
  case hn =>
    rintro v S' ⟨r, rfl, h⟩ _ _ _
    exact gr_iret C Em dL_transpose_6 h
def w_L_events (B : Nat × Nat) (o : Nat) (a1 : Int32) (a2 : Int32) (t : LwS) (Q : Int32 → LwS → Prop) : Prop := kdC t.1 o = 14 ∧ w_X11_events B o a1 a2 t.1 (fun r S' => Q r (S', t.2)) (fun E S' => (E = "java/lang/IllegalArgumentException" ∧ Q (-1000002) (S', t.2)) ∨ (E = "java/lang/IndexOutOfBoundsException" ∧ Q (-1000001) (S', t.2)))
theorem c_L_events (l : Launch) (D : va_G) (K : Nat → ClassId) (E0 b0 : Nat) (B : Nat × Nat) (o : Nat) (a1 : Int32) (a2 : Int32) (t : LwS) (Q : Int32 → LwS → Prop) (h : w_L_events B o a1 a2 t Q) : MetR l yL_events (.codeWith yL_events cL_events 4 (some .int) [(0, 6, 7, 16), (0, 6, 11, 26)]) 9 [.ref o, .int a1, .int a2] Q D K E0 b0 B t := by
  obtain ⟨hk, h⟩ := h
  refine gr_startH (by decide) rfl (Nat.le_of_ble_eq_true rfl) (fun p e s m args below meth c C htab Em => ?_)
  refine gr_aloadn C 0 0 dL_events_0 rfl rfl ?_
  refine gr_iloadn C 1 1 dL_events_1 rfl rfl ?_
  refine gr_iloadn C 2 2 dL_events_2 rfl rfl ?_
  refine gr_room (fun hr => ?_)
  refine gr_call C (y := yX11_events) (as := [.int a1, .int a2]) (by exact ⟨Nat.le_of_ble_eq_true rfl, Nat.le_of_ble_eq_true rfl⟩) B ⟨Nat.le_refl _, Nat.le_refl _⟩ hr (c_X11_events l D K E0 B _ o a1 a2 t.1 _ _ h) hk_X11_events rfl vl_L_63 kc_X11_events (isC_of hk (by decide)) dL_events_3 (Nat.le_of_ble_eq_true rfl) ?hx ?hn
  case hx =>
    rintro E S' hx _ _
    rcases hx with ⟨rfl, h⟩ | ⟨rfl, h⟩
    · refine gr_catch C htab [] (0, 6, 7, 16) [(0, 6, 11, 26)] rfl (fun _ h9 => absurd h9 List.not_mem_nil) (by decide +kernel) (by decide) (by decide) v_i577 n_i590 (fun q => ?_)
      refine gr_astoren C 3 [(3, .ref q), (0, .ref o), (1, .int a1), (2, .int a2)] dL_events_7 rfl (by decide) rfl ?_
      refine gr_ldc C (-1000002) v_i617 dL_events_8 ?_
      exact gr_iret C Em dL_events_10 h
    · refine gr_catch C htab [(0, 6, 7, 16)] (0, 6, 11, 26) [] rfl (List.forall_mem_cons.mpr ⟨⟨by decide, "java/lang/IllegalArgumentException", v_i577, by decide +kernel, by decide +kernel⟩, fun _ h9 => absurd h9 List.not_mem_nil⟩) (by decide +kernel) (by decide) (by decide) v_i457 n_i467 (fun q => ?_)
      refine gr_astoren C 3 [(3, .ref q), (0, .ref o), (1, .int a1), (2, .int a2)] dL_events_11 rfl (by decide) rfl ?_
      refine gr_ldc C (-1000001) v_i533 dL_events_12 ?_
      exact gr_iret C Em dL_events_14 h
  case hn =>
    rintro v S' ⟨r, rfl, h⟩ _ _ _
    exact gr_iret C Em dL_events_6 h
def w_L_left (B : Nat × Nat) (o : Nat) (a1 : Int32) (a2 : Int32) (t : LwS) (Q : Int32 → LwS → Prop) : Prop := kdC t.1 o = 14 ∧ w_X11_left B o a1 a2 t.1 (fun r S' => Q r (S', t.2)) (fun E S' => (E = "java/lang/IllegalArgumentException" ∧ Q (-1000002) (S', t.2)) ∨ (E = "java/lang/IndexOutOfBoundsException" ∧ Q (-1000001) (S', t.2)))
theorem c_L_left (l : Launch) (D : va_G) (K : Nat → ClassId) (E0 b0 : Nat) (B : Nat × Nat) (o : Nat) (a1 : Int32) (a2 : Int32) (t : LwS) (Q : Int32 → LwS → Prop) (h : w_L_left B o a1 a2 t Q) : MetR l yL_left (.codeWith yL_left cL_left 4 (some .int) [(0, 6, 7, 16), (0, 6, 11, 26)]) 9 [.ref o, .int a1, .int a2] Q D K E0 b0 B t := by
  obtain ⟨hk, h⟩ := h
  refine gr_startH (by decide) rfl (Nat.le_of_ble_eq_true rfl) (fun p e s m args below meth c C htab Em => ?_)
  refine gr_aloadn C 0 0 dL_left_0 rfl rfl ?_
  refine gr_iloadn C 1 1 dL_left_1 rfl rfl ?_
  refine gr_iloadn C 2 2 dL_left_2 rfl rfl ?_
  refine gr_room (fun hr => ?_)
  refine gr_call C (y := yX11_left) (as := [.int a1, .int a2]) (by exact ⟨Nat.le_of_ble_eq_true rfl, Nat.le_of_ble_eq_true rfl⟩) B ⟨Nat.le_refl _, Nat.le_refl _⟩ hr (c_X11_left l D K E0 B _ o a1 a2 t.1 _ _ h) hk_X11_left rfl vl_L_66 kc_X11_left (isC_of hk (by decide)) dL_left_3 (Nat.le_of_ble_eq_true rfl) ?hx ?hn
  case hx =>
    rintro E S' hx _ _
    rcases hx with ⟨rfl, h⟩ | ⟨rfl, h⟩
    · refine gr_catch C htab [] (0, 6, 7, 16) [(0, 6, 11, 26)] rfl (fun _ h9 => absurd h9 List.not_mem_nil) (by decide +kernel) (by decide) (by decide) v_i577 n_i590 (fun q => ?_)
      refine gr_astoren C 3 [(3, .ref q), (0, .ref o), (1, .int a1), (2, .int a2)] dL_left_7 rfl (by decide) rfl ?_
      refine gr_ldc C (-1000002) v_i617 dL_left_8 ?_
      exact gr_iret C Em dL_left_10 h
    · refine gr_catch C htab [(0, 6, 7, 16)] (0, 6, 11, 26) [] rfl (List.forall_mem_cons.mpr ⟨⟨by decide, "java/lang/IllegalArgumentException", v_i577, by decide +kernel, by decide +kernel⟩, fun _ h9 => absurd h9 List.not_mem_nil⟩) (by decide +kernel) (by decide) (by decide) v_i457 n_i467 (fun q => ?_)
      refine gr_astoren C 3 [(3, .ref q), (0, .ref o), (1, .int a1), (2, .int a2)] dL_left_11 rfl (by decide) rfl ?_
      refine gr_ldc C (-1000001) v_i533 dL_left_12 ?_
      exact gr_iret C Em dL_left_14 h
  case hn =>
    rintro v S' ⟨r, rfl, h⟩ _ _ _
    exact gr_iret C Em dL_left_6 h
def w_L_isRight (B : Nat × Nat) (o : Nat) (a1 : Int32) (a2 : Int32) (t : LwS) (Q : Int32 → LwS → Prop) : Prop := kdC t.1 o = 14 ∧ w_X11_isRight B o a1 a2 t.1 (fun r S' => (¬ r = 0 → Q 1 (S', t.2)) ∧ (r = 0 → Q 0 (S', t.2))) (fun E S' => (E = "java/lang/IllegalArgumentException" ∧ Q (-1000002) (S', t.2)) ∨ (E = "java/lang/IndexOutOfBoundsException" ∧ Q (-1000001) (S', t.2)))
theorem c_L_isRight (l : Launch) (D : va_G) (K : Nat → ClassId) (E0 b0 : Nat) (B : Nat × Nat) (o : Nat) (a1 : Int32) (a2 : Int32) (t : LwS) (Q : Int32 → LwS → Prop) (h : w_L_isRight B o a1 a2 t Q) : MetR l yL_isRight (.codeWith yL_isRight cL_isRight 4 (some .int) [(0, 14, 15, 16), (0, 14, 19, 26)]) 9 [.ref o, .int a1, .int a2] Q D K E0 b0 B t := by
  obtain ⟨hk, h⟩ := h
  refine gr_startH (by decide) rfl (Nat.le_of_ble_eq_true rfl) (fun p e s m args below meth c C htab Em => ?_)
  refine gr_aloadn C 0 0 dL_isRight_0 rfl rfl ?_
  refine gr_iloadn C 1 1 dL_isRight_1 rfl rfl ?_
  refine gr_iloadn C 2 2 dL_isRight_2 rfl rfl ?_
  refine gr_room (fun hr => ?_)
  refine gr_call C (y := yX11_isRight) (as := [.int a1, .int a2]) (by exact ⟨Nat.le_of_ble_eq_true rfl, Nat.le_of_ble_eq_true rfl⟩) B ⟨Nat.le_refl _, Nat.le_refl _⟩ hr (c_X11_isRight l D K E0 B _ o a1 a2 t.1 _ _ h) hk_X11_isRight rfl vl_L_69 kc_X11_isRight (isC_of hk (by decide)) dL_isRight_3 (Nat.le_of_ble_eq_true rfl) ?hx ?hn
  case hx =>
    rintro E S' hx _ _
    rcases hx with ⟨rfl, h⟩ | ⟨rfl, h⟩
    · refine gr_catch C htab [] (0, 14, 15, 16) [(0, 14, 19, 26)] rfl (fun _ h9 => absurd h9 List.not_mem_nil) (by decide +kernel) (by decide) (by decide) v_i577 n_i590 (fun q => ?_)
      refine gr_astoren C 3 [(3, .ref q), (0, .ref o), (1, .int a1), (2, .int a2)] dL_isRight_15 rfl (by decide) rfl ?_
      refine gr_ldc C (-1000002) v_i617 dL_isRight_16 ?_
      exact gr_iret C Em dL_isRight_18 h
    · refine gr_catch C htab [(0, 14, 15, 16)] (0, 14, 19, 26) [] rfl (List.forall_mem_cons.mpr ⟨⟨by decide, "java/lang/IllegalArgumentException", v_i577, by decide +kernel, by decide +kernel⟩, fun _ h9 => absurd h9 List.not_mem_nil⟩) (by decide +kernel) (by decide) (by decide) v_i457 n_i467 (fun q => ?_)
      refine gr_astoren C 3 [(3, .ref q), (0, .ref o), (1, .int a1), (2, .int a2)] dL_isRight_19 rfl (by decide) rfl ?_
      refine gr_ldc C (-1000001) v_i533 dL_isRight_20 ?_
      exact gr_iret C Em dL_isRight_22 h
  case hn =>
    rintro v S' ⟨r, rfl, h⟩ _ _ _
    refine gr_if_eq C 13 dL_isRight_6 (by decide) (fun c1 => ?_) (fun c1 => ?_)
    · refine gr_iconst C 0 dL_isRight_13 (by decide) ?_
      exact gr_iret C Em dL_isRight_14 (h.2 c1)
    · refine gr_iconst C 1 dL_isRight_9 (by decide) ?_
      refine gr_goto C 14 dL_isRight_10 (by decide) ?_
      exact gr_iret C Em dL_isRight_14 (h.1 c1)
def w_L_written (B : Nat × Nat) (o : Nat) (a1 : Int32) (a2 : Int32) (a3 : Int32) (t : LwS) (Q : Int32 → LwS → Prop) : Prop := kdC t.1 o = 14 ∧ w_X11_written B o a1 a2 a3 t.1 (fun r S' => Q r (S', t.2)) (fun E S' => (E = "java/lang/IllegalArgumentException" ∧ Q (-1000002) (S', t.2)) ∨ (E = "java/lang/IndexOutOfBoundsException" ∧ Q (-1000001) (S', t.2)))
theorem c_L_written (l : Launch) (D : va_G) (K : Nat → ClassId) (E0 b0 : Nat) (B : Nat × Nat) (o : Nat) (a1 : Int32) (a2 : Int32) (a3 : Int32) (t : LwS) (Q : Int32 → LwS → Prop) (h : w_L_written B o a1 a2 a3 t Q) : MetR l yL_written (.codeWith yL_written cL_written 5 (some .int) [(0, 7, 8, 16), (0, 7, 13, 26)]) 10 [.ref o, .int a1, .int a2, .int a3] Q D K E0 b0 B t := by
  obtain ⟨hk, h⟩ := h
  refine gr_startH (by decide) rfl (Nat.le_of_ble_eq_true rfl) (fun p e s m args below meth c C htab Em => ?_)
  refine gr_aloadn C 0 0 dL_written_0 rfl rfl ?_
  refine gr_iloadn C 1 1 dL_written_1 rfl rfl ?_
  refine gr_iloadn C 2 2 dL_written_2 rfl rfl ?_
  refine gr_iloadn C 3 3 dL_written_3 rfl rfl ?_
  refine gr_room (fun hr => ?_)
  refine gr_call C (y := yX11_written) (as := [.int a1, .int a2, .int a3]) (by exact ⟨Nat.le_of_ble_eq_true rfl, Nat.le_of_ble_eq_true rfl⟩) B ⟨Nat.le_refl _, Nat.le_refl _⟩ hr (c_X11_written l D K E0 B _ o a1 a2 a3 t.1 _ _ h) hk_X11_written rfl vl_L_73 kc_X11_written (isC_of hk (by decide)) dL_written_4 (Nat.le_of_ble_eq_true rfl) ?hx ?hn
  case hx =>
    rintro E S' hx _ _
    rcases hx with ⟨rfl, h⟩ | ⟨rfl, h⟩
    · refine gr_catch C htab [] (0, 7, 8, 16) [(0, 7, 13, 26)] rfl (fun _ h9 => absurd h9 List.not_mem_nil) (by decide +kernel) (by decide) (by decide) v_i577 n_i590 (fun q => ?_)
      refine gr_astore C [(4, .ref q), (0, .ref o), (1, .int a1), (2, .int a2), (3, .int a3)] dL_written_8 (by decide) rfl ?_
      refine gr_ldc C (-1000002) v_i617 dL_written_10 ?_
      exact gr_iret C Em dL_written_12 h
    · refine gr_catch C htab [(0, 7, 8, 16)] (0, 7, 13, 26) [] rfl (List.forall_mem_cons.mpr ⟨⟨by decide, "java/lang/IllegalArgumentException", v_i577, by decide +kernel, by decide +kernel⟩, fun _ h9 => absurd h9 List.not_mem_nil⟩) (by decide +kernel) (by decide) (by decide) v_i457 n_i467 (fun q => ?_)
      refine gr_astore C [(4, .ref q), (0, .ref o), (1, .int a1), (2, .int a2), (3, .int a3)] dL_written_13 (by decide) rfl ?_
      refine gr_ldc C (-1000001) v_i533 dL_written_15 ?_
      exact gr_iret C Em dL_written_17 h
  case hn =>
    rintro v S' ⟨r, rfl, h⟩ _ _ _
    exact gr_iret C Em dL_written_7 h
def w_L_addPhrase (B : Nat × Nat) (o : Nat) (a1 : Int32) (a2 : Int32) (a3 : Int32) (a4 : Int32) (a5 : Int32) (t : LwS) (Q : Int32 → LwS → Prop) : Prop := kdC t.1 o = 14 ∧ w_X11_addPhrase B o a1 a2 a3 a4 a5 t.1 (fun r S' => Q r (S', t.2)) (fun E S' => (E = "java/lang/IllegalArgumentException" ∧ Q (-1000002) (S', t.2)) ∨ (E = "java/lang/IndexOutOfBoundsException" ∧ Q (-1000001) (S', t.2)) ∨ (E = "java/lang/IllegalStateException" ∧ Q (-1000003) (S', t.2)))
theorem c_L_addPhrase (l : Launch) (D : va_G) (K : Nat → ClassId) (E0 b0 : Nat) (B : Nat × Nat) (o : Nat) (a1 : Int32) (a2 : Int32) (a3 : Int32) (a4 : Int32) (a5 : Int32) (t : LwS) (Q : Int32 → LwS → Prop) (h : w_L_addPhrase B o a1 a2 a3 a4 a5 t Q) : MetR l yL_addPhrase (.codeWith yL_addPhrase cL_addPhrase 7 (some .int) [(0, 11, 12, 16), (0, 11, 17, 26), (0, 11, 22, 19)]) 10 [.ref o, .int a1, .int a2, .int a3, .int a4, .int a5] Q D K E0 b0 B t := by
  obtain ⟨hk, h⟩ := h
  refine gr_startH (by decide) rfl (Nat.le_of_ble_eq_true rfl) (fun p e s m args below meth c C htab Em => ?_)
  refine gr_aloadn C 0 0 dL_addPhrase_0 rfl rfl ?_
  refine gr_iloadn C 1 1 dL_addPhrase_1 rfl rfl ?_
  refine gr_iloadn C 2 2 dL_addPhrase_2 rfl rfl ?_
  refine gr_iloadn C 3 3 dL_addPhrase_3 rfl rfl ?_
  refine gr_iload C 4 dL_addPhrase_4 rfl ?_
  refine gr_iload C 5 dL_addPhrase_6 rfl ?_
  refine gr_room (fun hr => ?_)
  refine gr_call C (y := yX11_addPhrase) (as := [.int a1, .int a2, .int a3, .int a4, .int a5]) (by exact ⟨Nat.le_of_ble_eq_true rfl, Nat.le_of_ble_eq_true rfl⟩) B ⟨Nat.le_refl _, Nat.le_refl _⟩ hr (c_X11_addPhrase l D K E0 B _ o a1 a2 a3 a4 a5 t.1 _ _ h) hk_X11_addPhrase rfl vl_L_76 kc_X11_addPhrase (isC_of hk (by decide)) dL_addPhrase_8 (Nat.le_of_ble_eq_true rfl) ?hx ?hn
  case hx =>
    rintro E S' hx _ _
    rcases hx with ⟨rfl, h⟩ | ⟨rfl, h⟩ | ⟨rfl, h⟩
    · refine gr_catch C htab [] (0, 11, 12, 16) [(0, 11, 17, 26), (0, 11, 22, 19)] rfl (fun _ h9 => absurd h9 List.not_mem_nil) (by decide +kernel) (by decide) (by decide) v_i577 n_i590 (fun q => ?_)
      refine gr_astore C [(6, .ref q), (0, .ref o), (1, .int a1), (2, .int a2), (3, .int a3), (4, .int a4), (5, .int a5)] dL_addPhrase_12 (by decide) rfl ?_
      refine gr_ldc C (-1000002) v_i617 dL_addPhrase_14 ?_
      exact gr_iret C Em dL_addPhrase_16 h
    · refine gr_catch C htab [(0, 11, 12, 16)] (0, 11, 17, 26) [(0, 11, 22, 19)] rfl (List.forall_mem_cons.mpr ⟨⟨by decide, "java/lang/IllegalArgumentException", v_i577, by decide +kernel, by decide +kernel⟩, fun _ h9 => absurd h9 List.not_mem_nil⟩) (by decide +kernel) (by decide) (by decide) v_i457 n_i467 (fun q => ?_)
      refine gr_astore C [(6, .ref q), (0, .ref o), (1, .int a1), (2, .int a2), (3, .int a3), (4, .int a4), (5, .int a5)] dL_addPhrase_17 (by decide) rfl ?_
      refine gr_ldc C (-1000001) v_i533 dL_addPhrase_19 ?_
      exact gr_iret C Em dL_addPhrase_21 h
    · refine gr_catch C htab [(0, 11, 12, 16), (0, 11, 17, 26)] (0, 11, 22, 19) [] rfl (List.forall_mem_cons.mpr ⟨⟨by decide, "java/lang/IllegalArgumentException", v_i577, by decide +kernel, by decide +kernel⟩, List.forall_mem_cons.mpr ⟨⟨by decide, "java/lang/IndexOutOfBoundsException", v_i457, by decide +kernel, by decide +kernel⟩, fun _ h9 => absurd h9 List.not_mem_nil⟩⟩) (by decide +kernel) (by decide) (by decide) v_i632 n_i649 (fun q => ?_)
      refine gr_astore C [(6, .ref q), (0, .ref o), (1, .int a1), (2, .int a2), (3, .int a3), (4, .int a4), (5, .int a5)] dL_addPhrase_22 (by decide) rfl ?_
      refine gr_ldc C (-1000003) v_i908 dL_addPhrase_24 ?_
      exact gr_iret C Em dL_addPhrase_26 h
  case hn =>
    rintro v S' ⟨r, rfl, h⟩ _ _ _
    exact gr_iret C Em dL_addPhrase_11 h
def w_L_dropPhrase (B : Nat × Nat) (o : Nat) (a1 : Int32) (t : LwS) (Q : Int32 → LwS → Prop) : Prop := kdC t.1 o = 14 ∧ w_X11_dropPhrase B o a1 t.1 (fun r S' => (¬ r = 0 → Q 1 (S', t.2)) ∧ (r = 0 → Q 0 (S', t.2))) (fun E S' => (E = "java/lang/IndexOutOfBoundsException" ∧ Q (-1000001) (S', t.2)))
theorem c_L_dropPhrase (l : Launch) (D : va_G) (K : Nat → ClassId) (E0 b0 : Nat) (B : Nat × Nat) (o : Nat) (a1 : Int32) (t : LwS) (Q : Int32 → LwS → Prop) (h : w_L_dropPhrase B o a1 t Q) : MetR l yL_dropPhrase (.codeWith yL_dropPhrase cL_dropPhrase 3 (some .int) [(0, 13, 14, 26)]) 8 [.ref o, .int a1] Q D K E0 b0 B t := by
  obtain ⟨hk, h⟩ := h
  refine gr_startH (by decide) rfl (Nat.le_of_ble_eq_true rfl) (fun p e s m args below meth c C htab Em => ?_)
  refine gr_aloadn C 0 0 dL_dropPhrase_0 rfl rfl ?_
  refine gr_iloadn C 1 1 dL_dropPhrase_1 rfl rfl ?_
  refine gr_room (fun hr => ?_)
  refine gr_call C (y := yX11_dropPhrase) (as := [.int a1]) (by exact ⟨Nat.le_of_ble_eq_true rfl, Nat.le_of_ble_eq_true rfl⟩) B ⟨Nat.le_refl _, Nat.le_refl _⟩ hr (c_X11_dropPhrase l D K E0 B _ o a1 t.1 _ _ h) hk_X11_dropPhrase rfl vl_L_80 kc_X11_dropPhrase (isC_of hk (by decide)) dL_dropPhrase_2 (Nat.le_of_ble_eq_true rfl) ?hx ?hn
  case hx =>
    rintro E S' hx _ _
    rcases hx with ⟨rfl, h⟩
    · refine gr_catch C htab [] (0, 13, 14, 26) [] rfl (fun _ h9 => absurd h9 List.not_mem_nil) (by decide +kernel) (by decide) (by decide) v_i457 n_i467 (fun q => ?_)
      refine gr_astoren C 2 [(2, .ref q), (0, .ref o), (1, .int a1)] dL_dropPhrase_14 rfl (by decide) rfl ?_
      refine gr_ldc C (-1000001) v_i533 dL_dropPhrase_15 ?_
      exact gr_iret C Em dL_dropPhrase_17 h
  case hn =>
    rintro v S' ⟨r, rfl, h⟩ _ _ _
    refine gr_if_eq C 12 dL_dropPhrase_5 (by decide) (fun c1 => ?_) (fun c1 => ?_)
    · refine gr_iconst C 0 dL_dropPhrase_12 (by decide) ?_
      exact gr_iret C Em dL_dropPhrase_13 (h.2 c1)
    · refine gr_iconst C 1 dL_dropPhrase_8 (by decide) ?_
      refine gr_goto C 13 dL_dropPhrase_9 (by decide) ?_
      exact gr_iret C Em dL_dropPhrase_13 (h.1 c1)
def w_L_allowTurn (B : Nat × Nat) (o : Nat) (a1 : Int32) (a2 : Int32) (a3 : Int32) (t : LwS) (Q : Int32 → LwS → Prop) : Prop := kdC t.1 o = 14 ∧ w_X11_allowTurn B o a1 a2 a3 t.1 (fun r S' => (¬ r = 0 → Q 1 (S', t.2)) ∧ (r = 0 → Q 0 (S', t.2))) (fun E S' => (E = "java/lang/IllegalArgumentException" ∧ Q (-1000002) (S', t.2)) ∨ (E = "java/lang/IndexOutOfBoundsException" ∧ Q (-1000001) (S', t.2)))
theorem c_L_allowTurn (l : Launch) (D : va_G) (K : Nat → ClassId) (E0 b0 : Nat) (B : Nat × Nat) (o : Nat) (a1 : Int32) (a2 : Int32) (a3 : Int32) (t : LwS) (Q : Int32 → LwS → Prop) (h : w_L_allowTurn B o a1 a2 a3 t Q) : MetR l yL_allowTurn (.codeWith yL_allowTurn cL_allowTurn 5 (some .int) [(0, 15, 16, 16), (0, 15, 21, 26)]) 9 [.ref o, .int a1, .int a2, .int a3] Q D K E0 b0 B t := by
  obtain ⟨hk, h⟩ := h
  refine gr_startH (by decide) rfl (Nat.le_of_ble_eq_true rfl) (fun p e s m args below meth c C htab Em => ?_)
  refine gr_aloadn C 0 0 dL_allowTurn_0 rfl rfl ?_
  refine gr_iloadn C 1 1 dL_allowTurn_1 rfl rfl ?_
  refine gr_iloadn C 2 2 dL_allowTurn_2 rfl rfl ?_
  refine gr_iloadn C 3 3 dL_allowTurn_3 rfl rfl ?_
  refine gr_room (fun hr => ?_)
  refine gr_call C (y := yX11_allowTurn) (as := [.int a1, .int a2, .int a3]) (by exact ⟨Nat.le_of_ble_eq_true rfl, Nat.le_of_ble_eq_true rfl⟩) B ⟨Nat.le_refl _, Nat.le_refl _⟩ hr (c_X11_allowTurn l D K E0 B _ o a1 a2 a3 t.1 _ _ h) hk_X11_allowTurn rfl vl_L_84 kc_X11_allowTurn (isC_of hk (by decide)) dL_allowTurn_4 (Nat.le_of_ble_eq_true rfl) ?hx ?hn
  case hx =>
    rintro E S' hx _ _
    rcases hx with ⟨rfl, h⟩ | ⟨rfl, h⟩
    · refine gr_catch C htab [] (0, 15, 16, 16) [(0, 15, 21, 26)] rfl (fun _ h9 => absurd h9 List.not_mem_nil) (by decide +kernel) (by decide) (by decide) v_i577 n_i590 (fun q => ?_)
      refine gr_astore C [(4, .ref q), (0, .ref o), (1, .int a1), (2, .int a2), (3, .int a3)] dL_allowTurn_16 (by decide) rfl ?_
      refine gr_ldc C (-1000002) v_i617 dL_allowTurn_18 ?_
      exact gr_iret C Em dL_allowTurn_20 h
    · refine gr_catch C htab [(0, 15, 16, 16)] (0, 15, 21, 26) [] rfl (List.forall_mem_cons.mpr ⟨⟨by decide, "java/lang/IllegalArgumentException", v_i577, by decide +kernel, by decide +kernel⟩, fun _ h9 => absurd h9 List.not_mem_nil⟩) (by decide +kernel) (by decide) (by decide) v_i457 n_i467 (fun q => ?_)
      refine gr_astore C [(4, .ref q), (0, .ref o), (1, .int a1), (2, .int a2), (3, .int a3)] dL_allowTurn_21 (by decide) rfl ?_
      refine gr_ldc C (-1000001) v_i533 dL_allowTurn_23 ?_
      exact gr_iret C Em dL_allowTurn_25 h
  case hn =>
    rintro v S' ⟨r, rfl, h⟩ _ _ _
    refine gr_if_eq C 14 dL_allowTurn_7 (by decide) (fun c1 => ?_) (fun c1 => ?_)
    · refine gr_iconst C 0 dL_allowTurn_14 (by decide) ?_
      exact gr_iret C Em dL_allowTurn_15 (h.2 c1)
    · refine gr_iconst C 1 dL_allowTurn_10 (by decide) ?_
      refine gr_goto C 15 dL_allowTurn_11 (by decide) ?_
      exact gr_iret C Em dL_allowTurn_15 (h.1 c1)
def w_L_addRepeat (B : Nat × Nat) (o : Nat) (a1 : Int32) (a2 : Int32) (a3 : Int32) (t : LwS) (Q : Int32 → LwS → Prop) : Prop := kdC t.1 o = 14 ∧ w_X11_addRepeat B o a1 a2 a3 t.1 (fun r S' => Q r (S', t.2)) (fun E S' => (E = "java/lang/IndexOutOfBoundsException" ∧ Q (-1000001) (S', t.2)) ∨ (E = "java/lang/IllegalArgumentException" ∧ Q (-1000002) (S', t.2)) ∨ (E = "java/lang/IllegalStateException" ∧ Q (-1000003) (S', t.2)))
theorem c_L_addRepeat (l : Launch) (D : va_G) (K : Nat → ClassId) (E0 b0 : Nat) (B : Nat × Nat) (o : Nat) (a1 : Int32) (a2 : Int32) (a3 : Int32) (t : LwS) (Q : Int32 → LwS → Prop) (h : w_L_addRepeat B o a1 a2 a3 t Q) : MetR l yL_addRepeat (.codeWith yL_addRepeat cL_addRepeat 5 (some .int) [(0, 7, 8, 26), (0, 7, 13, 16), (0, 7, 18, 19)]) 9 [.ref o, .int a1, .int a2, .int a3] Q D K E0 b0 B t := by
  obtain ⟨hk, h⟩ := h
  refine gr_startH (by decide) rfl (Nat.le_of_ble_eq_true rfl) (fun p e s m args below meth c C htab Em => ?_)
  refine gr_aloadn C 0 0 dL_addRepeat_0 rfl rfl ?_
  refine gr_iloadn C 1 1 dL_addRepeat_1 rfl rfl ?_
  refine gr_iloadn C 2 2 dL_addRepeat_2 rfl rfl ?_
  refine gr_iloadn C 3 3 dL_addRepeat_3 rfl rfl ?_
  refine gr_room (fun hr => ?_)
  refine gr_call C (y := yX11_addRepeat) (as := [.int a1, .int a2, .int a3]) (by exact ⟨Nat.le_of_ble_eq_true rfl, Nat.le_of_ble_eq_true rfl⟩) B ⟨Nat.le_refl _, Nat.le_refl _⟩ hr (c_X11_addRepeat l D K E0 B _ o a1 a2 a3 t.1 _ _ h) hk_X11_addRepeat rfl vl_L_88 kc_X11_addRepeat (isC_of hk (by decide)) dL_addRepeat_4 (Nat.le_of_ble_eq_true rfl) ?hx ?hn
  case hx =>
    rintro E S' hx _ _
    rcases hx with ⟨rfl, h⟩ | ⟨rfl, h⟩ | ⟨rfl, h⟩
    · refine gr_catch C htab [] (0, 7, 8, 26) [(0, 7, 13, 16), (0, 7, 18, 19)] rfl (fun _ h9 => absurd h9 List.not_mem_nil) (by decide +kernel) (by decide) (by decide) v_i457 n_i467 (fun q => ?_)
      refine gr_astore C [(4, .ref q), (0, .ref o), (1, .int a1), (2, .int a2), (3, .int a3)] dL_addRepeat_8 (by decide) rfl ?_
      refine gr_ldc C (-1000001) v_i533 dL_addRepeat_10 ?_
      exact gr_iret C Em dL_addRepeat_12 h
    · refine gr_catch C htab [(0, 7, 8, 26)] (0, 7, 13, 16) [(0, 7, 18, 19)] rfl (List.forall_mem_cons.mpr ⟨⟨by decide, "java/lang/IndexOutOfBoundsException", v_i457, by decide +kernel, by decide +kernel⟩, fun _ h9 => absurd h9 List.not_mem_nil⟩) (by decide +kernel) (by decide) (by decide) v_i577 n_i590 (fun q => ?_)
      refine gr_astore C [(4, .ref q), (0, .ref o), (1, .int a1), (2, .int a2), (3, .int a3)] dL_addRepeat_13 (by decide) rfl ?_
      refine gr_ldc C (-1000002) v_i617 dL_addRepeat_15 ?_
      exact gr_iret C Em dL_addRepeat_17 h
    · refine gr_catch C htab [(0, 7, 8, 26), (0, 7, 13, 16)] (0, 7, 18, 19) [] rfl (List.forall_mem_cons.mpr ⟨⟨by decide, "java/lang/IndexOutOfBoundsException", v_i457, by decide +kernel, by decide +kernel⟩, List.forall_mem_cons.mpr ⟨⟨by decide, "java/lang/IllegalArgumentException", v_i577, by decide +kernel, by decide +kernel⟩, fun _ h9 => absurd h9 List.not_mem_nil⟩⟩) (by decide +kernel) (by decide) (by decide) v_i632 n_i649 (fun q => ?_)
      refine gr_astore C [(4, .ref q), (0, .ref o), (1, .int a1), (2, .int a2), (3, .int a3)] dL_addRepeat_18 (by decide) rfl ?_
      refine gr_ldc C (-1000003) v_i908 dL_addRepeat_20 ?_
      exact gr_iret C Em dL_addRepeat_22 h
  case hn =>
    rintro v S' ⟨r, rfl, h⟩ _ _ _
    exact gr_iret C Em dL_addRepeat_7 h
def w_L_dropRepeat (B : Nat × Nat) (o : Nat) (a1 : Int32) (t : LwS) (Q : Int32 → LwS → Prop) : Prop := kdC t.1 o = 14 ∧ w_X11_dropRepeat B o a1 t.1 (fun r S' => Q r (S', t.2)) (fun E S' => (E = "java/lang/IndexOutOfBoundsException" ∧ Q (-1000001) (S', t.2)) ∨ (E = "java/lang/IllegalStateException" ∧ Q (-1000003) (S', t.2)))
theorem c_L_dropRepeat (l : Launch) (D : va_G) (K : Nat → ClassId) (E0 b0 : Nat) (B : Nat × Nat) (o : Nat) (a1 : Int32) (t : LwS) (Q : Int32 → LwS → Prop) (h : w_L_dropRepeat B o a1 t Q) : MetR l yL_dropRepeat (.codeWith yL_dropRepeat cL_dropRepeat 3 (some .int) [(0, 5, 6, 26), (0, 5, 10, 19)]) 9 [.ref o, .int a1] Q D K E0 b0 B t := by
  obtain ⟨hk, h⟩ := h
  refine gr_startH (by decide) rfl (Nat.le_of_ble_eq_true rfl) (fun p e s m args below meth c C htab Em => ?_)
  refine gr_aloadn C 0 0 dL_dropRepeat_0 rfl rfl ?_
  refine gr_iloadn C 1 1 dL_dropRepeat_1 rfl rfl ?_
  refine gr_room (fun hr => ?_)
  refine gr_call C (y := yX11_dropRepeat) (as := [.int a1]) (by exact ⟨Nat.le_of_ble_eq_true rfl, Nat.le_of_ble_eq_true rfl⟩) B ⟨Nat.le_refl _, Nat.le_refl _⟩ hr (c_X11_dropRepeat l D K E0 B _ o a1 t.1 _ _ h) hk_X11_dropRepeat rfl vl_L_91 kc_X11_dropRepeat (isC_of hk (by decide)) dL_dropRepeat_2 (Nat.le_of_ble_eq_true rfl) ?hx ?hn
  case hx =>
    rintro E S' hx _ _
    rcases hx with ⟨rfl, h⟩ | ⟨rfl, h⟩
    · refine gr_catch C htab [] (0, 5, 6, 26) [(0, 5, 10, 19)] rfl (fun _ h9 => absurd h9 List.not_mem_nil) (by decide +kernel) (by decide) (by decide) v_i457 n_i467 (fun q => ?_)
      refine gr_astoren C 2 [(2, .ref q), (0, .ref o), (1, .int a1)] dL_dropRepeat_6 rfl (by decide) rfl ?_
      refine gr_ldc C (-1000001) v_i533 dL_dropRepeat_7 ?_
      exact gr_iret C Em dL_dropRepeat_9 h
    · refine gr_catch C htab [(0, 5, 6, 26)] (0, 5, 10, 19) [] rfl (List.forall_mem_cons.mpr ⟨⟨by decide, "java/lang/IndexOutOfBoundsException", v_i457, by decide +kernel, by decide +kernel⟩, fun _ h9 => absurd h9 List.not_mem_nil⟩) (by decide +kernel) (by decide) (by decide) v_i632 n_i649 (fun q => ?_)
      refine gr_astoren C 2 [(2, .ref q), (0, .ref o), (1, .int a1)] dL_dropRepeat_10 rfl (by decide) rfl ?_
      refine gr_ldc C (-1000003) v_i908 dL_dropRepeat_11 ?_
      exact gr_iret C Em dL_dropRepeat_13 h
  case hn =>
    rintro v S' ⟨r, rfl, h⟩ _ _ _
    exact gr_iret C Em dL_dropRepeat_5 h
def w_L_barAt (B : Nat × Nat) (o : Nat) (a1 : Int32) (t : LwS) (Q : Int32 → LwS → Prop) : Prop := kdC t.1 o = 14 ∧ w_X11_barAt B o a1 t.1 (fun r S' => Q r (S', t.2)) (fun E S' => (E = "java/lang/IndexOutOfBoundsException" ∧ Q (-1000001) (S', t.2)))
theorem c_L_barAt (l : Launch) (D : va_G) (K : Nat → ClassId) (E0 b0 : Nat) (B : Nat × Nat) (o : Nat) (a1 : Int32) (t : LwS) (Q : Int32 → LwS → Prop) (h : w_L_barAt B o a1 t Q) : MetR l yL_barAt (.codeWith yL_barAt cL_barAt 3 (some .int) [(0, 5, 6, 26)]) 13 [.ref o, .int a1] Q D K E0 b0 B t := by
  obtain ⟨hk, h⟩ := h
  refine gr_startH (by decide) rfl (Nat.le_of_ble_eq_true rfl) (fun p e s m args below meth c C htab Em => ?_)
  refine gr_aloadn C 0 0 dL_barAt_0 rfl rfl ?_
  refine gr_iloadn C 1 1 dL_barAt_1 rfl rfl ?_
  refine gr_room (fun hr => ?_)
  refine gr_call C (y := yX11_barAt) (as := [.int a1]) (by exact ⟨Nat.le_of_ble_eq_true rfl, Nat.le_of_ble_eq_true rfl⟩) B ⟨Nat.le_refl _, Nat.le_refl _⟩ hr (c_X11_barAt l D K E0 B _ o a1 t.1 _ _ h) hk_X11_barAt rfl vl_L_94 kc_X11_barAt (isC_of hk (by decide)) dL_barAt_2 (Nat.le_of_ble_eq_true rfl) ?hx ?hn
  case hx =>
    rintro E S' hx _ _
    rcases hx with ⟨rfl, h⟩
    · refine gr_catch C htab [] (0, 5, 6, 26) [] rfl (fun _ h9 => absurd h9 List.not_mem_nil) (by decide +kernel) (by decide) (by decide) v_i457 n_i467 (fun q => ?_)
      refine gr_astoren C 2 [(2, .ref q), (0, .ref o), (1, .int a1)] dL_barAt_6 rfl (by decide) rfl ?_
      refine gr_ldc C (-1000001) v_i533 dL_barAt_7 ?_
      exact gr_iret C Em dL_barAt_9 h
  case hn =>
    rintro v S' ⟨r, rfl, h⟩ _ _ _
    exact gr_iret C Em dL_barAt_5 h
def w_L_startOf (B : Nat × Nat) (o : Nat) (a1 : Int32) (t : LwS) (Q : Int32 → LwS → Prop) : Prop := kdC t.1 o = 14 ∧ w_X11_startOf B o a1 t.1 (fun r S' => Q r (S', t.2)) (fun E S' => (E = "java/lang/IndexOutOfBoundsException" ∧ Q (-1000001) (S', t.2)))
theorem c_L_startOf (l : Launch) (D : va_G) (K : Nat → ClassId) (E0 b0 : Nat) (B : Nat × Nat) (o : Nat) (a1 : Int32) (t : LwS) (Q : Int32 → LwS → Prop) (h : w_L_startOf B o a1 t Q) : MetR l yL_startOf (.codeWith yL_startOf cL_startOf 3 (some .int) [(0, 5, 6, 26)]) 13 [.ref o, .int a1] Q D K E0 b0 B t := by
  obtain ⟨hk, h⟩ := h
  refine gr_startH (by decide) rfl (Nat.le_of_ble_eq_true rfl) (fun p e s m args below meth c C htab Em => ?_)
  refine gr_aloadn C 0 0 dL_startOf_0 rfl rfl ?_
  refine gr_iloadn C 1 1 dL_startOf_1 rfl rfl ?_
  refine gr_room (fun hr => ?_)
  refine gr_call C (y := yX11_startOf) (as := [.int a1]) (by exact ⟨Nat.le_of_ble_eq_true rfl, Nat.le_of_ble_eq_true rfl⟩) B ⟨Nat.le_refl _, Nat.le_refl _⟩ hr (c_X11_startOf l D K E0 B _ o a1 t.1 _ _ h) hk_X11_startOf rfl vl_L_97 kc_X11_startOf (isC_of hk (by decide)) dL_startOf_2 (Nat.le_of_ble_eq_true rfl) ?hx ?hn
  case hx =>
    rintro E S' hx _ _
    rcases hx with ⟨rfl, h⟩
    · refine gr_catch C htab [] (0, 5, 6, 26) [] rfl (fun _ h9 => absurd h9 List.not_mem_nil) (by decide +kernel) (by decide) (by decide) v_i457 n_i467 (fun q => ?_)
      refine gr_astoren C 2 [(2, .ref q), (0, .ref o), (1, .int a1)] dL_startOf_6 rfl (by decide) rfl ?_
      refine gr_ldc C (-1000001) v_i533 dL_startOf_7 ?_
      exact gr_iret C Em dL_startOf_9 h
  case hn =>
    rintro v S' ⟨r, rfl, h⟩ _ _ _
    exact gr_iret C Em dL_startOf_5 h
def w_L_timeByEvents (B : Nat × Nat) (o : Nat) (a1 : Int32) (t : LwS) (Q : Int32 → LwS → Prop) : Prop := kdC t.1 o = 14 ∧ w_X11_timeByEvents B o a1 t.1 (fun r S' => Q r (S', t.2)) (fun E S' => (E = "java/lang/IllegalArgumentException" ∧ Q (-1000002) (S', t.2)))
theorem c_L_timeByEvents (l : Launch) (D : va_G) (K : Nat → ClassId) (E0 b0 : Nat) (B : Nat × Nat) (o : Nat) (a1 : Int32) (t : LwS) (Q : Int32 → LwS → Prop) (h : w_L_timeByEvents B o a1 t Q) : MetR l yL_timeByEvents (.codeWith yL_timeByEvents cL_timeByEvents 3 (some .int) [(0, 5, 6, 16)]) 13 [.ref o, .int a1] Q D K E0 b0 B t := by
  obtain ⟨hk, h⟩ := h
  refine gr_startH (by decide) rfl (Nat.le_of_ble_eq_true rfl) (fun p e s m args below meth c C htab Em => ?_)
  refine gr_aloadn C 0 0 dL_timeByEvents_0 rfl rfl ?_
  refine gr_iloadn C 1 1 dL_timeByEvents_1 rfl rfl ?_
  refine gr_room (fun hr => ?_)
  refine gr_call C (y := yX11_timeByEvents) (as := [.int a1]) (by exact ⟨Nat.le_of_ble_eq_true rfl, Nat.le_of_ble_eq_true rfl⟩) B ⟨Nat.le_refl _, Nat.le_refl _⟩ hr (c_X11_timeByEvents l D K E0 B _ o a1 t.1 _ _ h) hk_X11_timeByEvents rfl vl_L_100 kc_X11_timeByEvents (isC_of hk (by decide)) dL_timeByEvents_2 (Nat.le_of_ble_eq_true rfl) ?hx ?hn
  case hx =>
    rintro E S' hx _ _
    rcases hx with ⟨rfl, h⟩
    · refine gr_catch C htab [] (0, 5, 6, 16) [] rfl (fun _ h9 => absurd h9 List.not_mem_nil) (by decide +kernel) (by decide) (by decide) v_i577 n_i590 (fun q => ?_)
      refine gr_astoren C 2 [(2, .ref q), (0, .ref o), (1, .int a1)] dL_timeByEvents_6 rfl (by decide) rfl ?_
      refine gr_ldc C (-1000002) v_i617 dL_timeByEvents_7 ?_
      exact gr_iret C Em dL_timeByEvents_9 h
  case hn =>
    rintro v S' ⟨r, rfl, h⟩ _ _ _
    exact gr_iret C Em dL_timeByEvents_5 h
def w_L_soundVoice (B : Nat × Nat) (o : Nat) (a1 : Int32) (t : LwS) (Q : Int32 → LwS → Prop) : Prop := kdC t.1 o = 14 ∧ w_X11_soundVoice B o a1 t.1 (fun r S' => Q r (S', t.2)) (fun E S' => (E = "java/lang/IndexOutOfBoundsException" ∧ Q (-1000001) (S', t.2)))
theorem c_L_soundVoice (l : Launch) (D : va_G) (K : Nat → ClassId) (E0 b0 : Nat) (B : Nat × Nat) (o : Nat) (a1 : Int32) (t : LwS) (Q : Int32 → LwS → Prop) (h : w_L_soundVoice B o a1 t Q) : MetR l yL_soundVoice (.codeWith yL_soundVoice cL_soundVoice 3 (some .int) [(0, 5, 6, 26)]) 13 [.ref o, .int a1] Q D K E0 b0 B t := by
  obtain ⟨hk, h⟩ := h
  refine gr_startH (by decide) rfl (Nat.le_of_ble_eq_true rfl) (fun p e s m args below meth c C htab Em => ?_)
  refine gr_aloadn C 0 0 dL_soundVoice_0 rfl rfl ?_
  refine gr_iloadn C 1 1 dL_soundVoice_1 rfl rfl ?_
  refine gr_room (fun hr => ?_)
  refine gr_call C (y := yX11_soundVoice) (as := [.int a1]) (by exact ⟨Nat.le_of_ble_eq_true rfl, Nat.le_of_ble_eq_true rfl⟩) B ⟨Nat.le_refl _, Nat.le_refl _⟩ hr (c_X11_soundVoice l D K E0 B _ o a1 t.1 _ _ h) hk_X11_soundVoice rfl vl_L_103 kc_X11_soundVoice (isC_of hk (by decide)) dL_soundVoice_2 (Nat.le_of_ble_eq_true rfl) ?hx ?hn
  case hx =>
    rintro E S' hx _ _
    rcases hx with ⟨rfl, h⟩
    · refine gr_catch C htab [] (0, 5, 6, 26) [] rfl (fun _ h9 => absurd h9 List.not_mem_nil) (by decide +kernel) (by decide) (by decide) v_i457 n_i467 (fun q => ?_)
      refine gr_astoren C 2 [(2, .ref q), (0, .ref o), (1, .int a1)] dL_soundVoice_6 rfl (by decide) rfl ?_
      refine gr_ldc C (-1000001) v_i533 dL_soundVoice_7 ?_
      exact gr_iret C Em dL_soundVoice_9 h
  case hn =>
    rintro v S' ⟨r, rfl, h⟩ _ _ _
    exact gr_iret C Em dL_soundVoice_5 h
def w_L_soundStart (B : Nat × Nat) (o : Nat) (a1 : Int32) (t : LwS) (Q : Int32 → LwS → Prop) : Prop := kdC t.1 o = 14 ∧ w_X11_soundStart B o a1 t.1 (fun r S' => Q r (S', t.2)) (fun E S' => (E = "java/lang/IndexOutOfBoundsException" ∧ Q (-1000001) (S', t.2)))
theorem c_L_soundStart (l : Launch) (D : va_G) (K : Nat → ClassId) (E0 b0 : Nat) (B : Nat × Nat) (o : Nat) (a1 : Int32) (t : LwS) (Q : Int32 → LwS → Prop) (h : w_L_soundStart B o a1 t Q) : MetR l yL_soundStart (.codeWith yL_soundStart cL_soundStart 3 (some .int) [(0, 5, 6, 26)]) 13 [.ref o, .int a1] Q D K E0 b0 B t := by
  obtain ⟨hk, h⟩ := h
  refine gr_startH (by decide) rfl (Nat.le_of_ble_eq_true rfl) (fun p e s m args below meth c C htab Em => ?_)
  refine gr_aloadn C 0 0 dL_soundStart_0 rfl rfl ?_
  refine gr_iloadn C 1 1 dL_soundStart_1 rfl rfl ?_
  refine gr_room (fun hr => ?_)
  refine gr_call C (y := yX11_soundStart) (as := [.int a1]) (by exact ⟨Nat.le_of_ble_eq_true rfl, Nat.le_of_ble_eq_true rfl⟩) B ⟨Nat.le_refl _, Nat.le_refl _⟩ hr (c_X11_soundStart l D K E0 B _ o a1 t.1 _ _ h) hk_X11_soundStart rfl vl_L_106 kc_X11_soundStart (isC_of hk (by decide)) dL_soundStart_2 (Nat.le_of_ble_eq_true rfl) ?hx ?hn
  case hx =>
    rintro E S' hx _ _
    rcases hx with ⟨rfl, h⟩
    · refine gr_catch C htab [] (0, 5, 6, 26) [] rfl (fun _ h9 => absurd h9 List.not_mem_nil) (by decide +kernel) (by decide) (by decide) v_i457 n_i467 (fun q => ?_)
      refine gr_astoren C 2 [(2, .ref q), (0, .ref o), (1, .int a1)] dL_soundStart_6 rfl (by decide) rfl ?_
      refine gr_ldc C (-1000001) v_i533 dL_soundStart_7 ?_
      exact gr_iret C Em dL_soundStart_9 h
  case hn =>
    rintro v S' ⟨r, rfl, h⟩ _ _ _
    exact gr_iret C Em dL_soundStart_5 h
def w_L_soundTime (B : Nat × Nat) (o : Nat) (a1 : Int32) (t : LwS) (Q : Int32 → LwS → Prop) : Prop := kdC t.1 o = 14 ∧ w_X11_soundTime B o a1 t.1 (fun r S' => Q r (S', t.2)) (fun E S' => (E = "java/lang/IndexOutOfBoundsException" ∧ Q (-1000001) (S', t.2)))
theorem c_L_soundTime (l : Launch) (D : va_G) (K : Nat → ClassId) (E0 b0 : Nat) (B : Nat × Nat) (o : Nat) (a1 : Int32) (t : LwS) (Q : Int32 → LwS → Prop) (h : w_L_soundTime B o a1 t Q) : MetR l yL_soundTime (.codeWith yL_soundTime cL_soundTime 3 (some .int) [(0, 5, 6, 26)]) 13 [.ref o, .int a1] Q D K E0 b0 B t := by
  obtain ⟨hk, h⟩ := h
  refine gr_startH (by decide) rfl (Nat.le_of_ble_eq_true rfl) (fun p e s m args below meth c C htab Em => ?_)
  refine gr_aloadn C 0 0 dL_soundTime_0 rfl rfl ?_
  refine gr_iloadn C 1 1 dL_soundTime_1 rfl rfl ?_
  refine gr_room (fun hr => ?_)
  refine gr_call C (y := yX11_soundTime) (as := [.int a1]) (by exact ⟨Nat.le_of_ble_eq_true rfl, Nat.le_of_ble_eq_true rfl⟩) B ⟨Nat.le_refl _, Nat.le_refl _⟩ hr (c_X11_soundTime l D K E0 B _ o a1 t.1 _ _ h) hk_X11_soundTime rfl vl_L_109 kc_X11_soundTime (isC_of hk (by decide)) dL_soundTime_2 (Nat.le_of_ble_eq_true rfl) ?hx ?hn
  case hx =>
    rintro E S' hx _ _
    rcases hx with ⟨rfl, h⟩
    · refine gr_catch C htab [] (0, 5, 6, 26) [] rfl (fun _ h9 => absurd h9 List.not_mem_nil) (by decide +kernel) (by decide) (by decide) v_i457 n_i467 (fun q => ?_)
      refine gr_astoren C 2 [(2, .ref q), (0, .ref o), (1, .int a1)] dL_soundTime_6 rfl (by decide) rfl ?_
      refine gr_ldc C (-1000001) v_i533 dL_soundTime_7 ?_
      exact gr_iret C Em dL_soundTime_9 h
  case hn =>
    rintro v S' ⟨r, rfl, h⟩ _ _ _
    exact gr_iret C Em dL_soundTime_5 h
def w_L_soundPitch (B : Nat × Nat) (o : Nat) (a1 : Int32) (t : LwS) (Q : Int32 → LwS → Prop) : Prop := kdC t.1 o = 14 ∧ w_X11_soundPitch B o a1 t.1 (fun r S' => Q r (S', t.2)) (fun E S' => (E = "java/lang/IndexOutOfBoundsException" ∧ Q (-1000001) (S', t.2)))
theorem c_L_soundPitch (l : Launch) (D : va_G) (K : Nat → ClassId) (E0 b0 : Nat) (B : Nat × Nat) (o : Nat) (a1 : Int32) (t : LwS) (Q : Int32 → LwS → Prop) (h : w_L_soundPitch B o a1 t Q) : MetR l yL_soundPitch (.codeWith yL_soundPitch cL_soundPitch 3 (some .int) [(0, 5, 6, 26)]) 13 [.ref o, .int a1] Q D K E0 b0 B t := by
  obtain ⟨hk, h⟩ := h
  refine gr_startH (by decide) rfl (Nat.le_of_ble_eq_true rfl) (fun p e s m args below meth c C htab Em => ?_)
  refine gr_aloadn C 0 0 dL_soundPitch_0 rfl rfl ?_
  refine gr_iloadn C 1 1 dL_soundPitch_1 rfl rfl ?_
  refine gr_room (fun hr => ?_)
  refine gr_call C (y := yX11_soundPitch) (as := [.int a1]) (by exact ⟨Nat.le_of_ble_eq_true rfl, Nat.le_of_ble_eq_true rfl⟩) B ⟨Nat.le_refl _, Nat.le_refl _⟩ hr (c_X11_soundPitch l D K E0 B _ o a1 t.1 _ _ h) hk_X11_soundPitch rfl vl_L_112 kc_X11_soundPitch (isC_of hk (by decide)) dL_soundPitch_2 (Nat.le_of_ble_eq_true rfl) ?hx ?hn
  case hx =>
    rintro E S' hx _ _
    rcases hx with ⟨rfl, h⟩
    · refine gr_catch C htab [] (0, 5, 6, 26) [] rfl (fun _ h9 => absurd h9 List.not_mem_nil) (by decide +kernel) (by decide) (by decide) v_i457 n_i467 (fun q => ?_)
      refine gr_astoren C 2 [(2, .ref q), (0, .ref o), (1, .int a1)] dL_soundPitch_6 rfl (by decide) rfl ?_
      refine gr_ldc C (-1000001) v_i533 dL_soundPitch_7 ?_
      exact gr_iret C Em dL_soundPitch_9 h
  case hn =>
    rintro v S' ⟨r, rfl, h⟩ _ _ _
    exact gr_iret C Em dL_soundPitch_5 h
def w_L_loudness (B : Nat × Nat) (o : Nat) (a1 : Int32) (t : LwS) (Q : Int32 → LwS → Prop) : Prop := kdC t.1 o = 14 ∧ w_X11_loudness B o a1 t.1 (fun r S' => Q r (S', t.2)) (fun E S' => (E = "java/lang/IndexOutOfBoundsException" ∧ Q (-1000001) (S', t.2)))
theorem c_L_loudness (l : Launch) (D : va_G) (K : Nat → ClassId) (E0 b0 : Nat) (B : Nat × Nat) (o : Nat) (a1 : Int32) (t : LwS) (Q : Int32 → LwS → Prop) (h : w_L_loudness B o a1 t Q) : MetR l yL_loudness (.codeWith yL_loudness cL_loudness 3 (some .int) [(0, 5, 6, 26)]) 13 [.ref o, .int a1] Q D K E0 b0 B t := by
  obtain ⟨hk, h⟩ := h
  refine gr_startH (by decide) rfl (Nat.le_of_ble_eq_true rfl) (fun p e s m args below meth c C htab Em => ?_)
  refine gr_aloadn C 0 0 dL_loudness_0 rfl rfl ?_
  refine gr_iloadn C 1 1 dL_loudness_1 rfl rfl ?_
  refine gr_room (fun hr => ?_)
  refine gr_call C (y := yX11_loudness) (as := [.int a1]) (by exact ⟨Nat.le_of_ble_eq_true rfl, Nat.le_of_ble_eq_true rfl⟩) B ⟨Nat.le_refl _, Nat.le_refl _⟩ hr (c_X11_loudness l D K E0 B _ o a1 t.1 _ _ h) hk_X11_loudness rfl vl_L_115 kc_X11_loudness (isC_of hk (by decide)) dL_loudness_2 (Nat.le_of_ble_eq_true rfl) ?hx ?hn
  case hx =>
    rintro E S' hx _ _
    rcases hx with ⟨rfl, h⟩
    · refine gr_catch C htab [] (0, 5, 6, 26) [] rfl (fun _ h9 => absurd h9 List.not_mem_nil) (by decide +kernel) (by decide) (by decide) v_i457 n_i467 (fun q => ?_)
      refine gr_astoren C 2 [(2, .ref q), (0, .ref o), (1, .int a1)] dL_loudness_6 rfl (by decide) rfl ?_
      refine gr_ldc C (-1000001) v_i533 dL_loudness_7 ?_
      exact gr_iret C Em dL_loudness_9 h
  case hn =>
    rintro v S' ⟨r, rfl, h⟩ _ _ _
    exact gr_iret C Em dL_loudness_5 h
def w_L_setPaper (B : Nat × Nat) (o : Nat) (a1 : Int32) (a2 : Int32) (a3 : Int32) (t : LwS) (Q : Int32 → LwS → Prop) : Prop := kdC t.1 o = 14 ∧ w_X11_setPaper B o a1 a2 a3 t.1 (fun S' => Q 0 (S', t.2)) (fun E S' => (E = "java/lang/IllegalArgumentException" ∧ Q (-1000002) (S', t.2)))
theorem c_L_setPaper (l : Launch) (D : va_G) (K : Nat → ClassId) (E0 b0 : Nat) (B : Nat × Nat) (o : Nat) (a1 : Int32) (a2 : Int32) (a3 : Int32) (t : LwS) (Q : Int32 → LwS → Prop) (h : w_L_setPaper B o a1 a2 a3 t Q) : MetR l yL_setPaper (.codeWith yL_setPaper cL_setPaper 5 (some .int) [(0, 8, 9, 16)]) 8 [.ref o, .int a1, .int a2, .int a3] Q D K E0 b0 B t := by
  obtain ⟨hk, h⟩ := h
  refine gr_startH (by decide) rfl (Nat.le_of_ble_eq_true rfl) (fun p e s m args below meth c C htab Em => ?_)
  refine gr_aloadn C 0 0 dL_setPaper_0 rfl rfl ?_
  refine gr_iloadn C 1 1 dL_setPaper_1 rfl rfl ?_
  refine gr_iloadn C 2 2 dL_setPaper_2 rfl rfl ?_
  refine gr_iloadn C 3 3 dL_setPaper_3 rfl rfl ?_
  refine gr_room (fun hr => ?_)
  refine gr_call C (y := yX11_setPaper) (as := [.int a1, .int a2, .int a3]) (by exact ⟨Nat.le_of_ble_eq_true rfl, Nat.le_of_ble_eq_true rfl⟩) B ⟨Nat.le_refl _, Nat.le_refl _⟩ hr (c_X11_setPaper l D K E0 B _ o a1 a2 a3 t.1 _ _ h) hk_X11_setPaper rfl vl_L_118 kc_X11_setPaper (isC_of hk (by decide)) dL_setPaper_4 (Nat.le_of_ble_eq_true rfl) ?hx ?hn
  case hx =>
    rintro E S' hx _ _
    rcases hx with ⟨rfl, h⟩
    · refine gr_catch C htab [] (0, 8, 9, 16) [] rfl (fun _ h9 => absurd h9 List.not_mem_nil) (by decide +kernel) (by decide) (by decide) v_i577 n_i590 (fun q => ?_)
      refine gr_astore C [(4, .ref q), (0, .ref o), (1, .int a1), (2, .int a2), (3, .int a3)] dL_setPaper_9 (by decide) rfl ?_
      refine gr_ldc C (-1000002) v_i617 dL_setPaper_11 ?_
      exact gr_iret C Em dL_setPaper_13 h
  case hn =>
    rintro v S' ⟨rfl, h⟩ _ _ _
    refine gr_iconst C 0 dL_setPaper_7 (by decide) ?_
    exact gr_iret C Em dL_setPaper_8 h
def w_L_items (B : Nat × Nat) (o : Nat) (a1 : Int32) (t : LwS) (Q : Int32 → LwS → Prop) : Prop := kdC t.1 o = 14 ∧ w_X11_items B o a1 t.1 (fun r S' => Q r (S', t.2)) (fun E S' => (E = "java/lang/IllegalArgumentException" ∧ Q (-1000002) (S', t.2)) ∨ (E = "java/lang/IllegalStateException" ∧ Q (-1000003) (S', t.2)))
theorem c_L_items (l : Launch) (D : va_G) (K : Nat → ClassId) (E0 b0 : Nat) (B : Nat × Nat) (o : Nat) (a1 : Int32) (t : LwS) (Q : Int32 → LwS → Prop) (h : w_L_items B o a1 t Q) : MetR l yL_items (.codeWith yL_items cL_items 3 (some .int) [(0, 5, 6, 16), (0, 5, 10, 19)]) 13 [.ref o, .int a1] Q D K E0 b0 B t := by
  obtain ⟨hk, h⟩ := h
  refine gr_startH (by decide) rfl (Nat.le_of_ble_eq_true rfl) (fun p e s m args below meth c C htab Em => ?_)
  refine gr_aloadn C 0 0 dL_items_0 rfl rfl ?_
  refine gr_iloadn C 1 1 dL_items_1 rfl rfl ?_
  refine gr_room (fun hr => ?_)
  refine gr_call C (y := yX11_items) (as := [.int a1]) (by exact ⟨Nat.le_of_ble_eq_true rfl, Nat.le_of_ble_eq_true rfl⟩) B ⟨Nat.le_refl _, Nat.le_refl _⟩ hr (c_X11_items l D K E0 B _ o a1 t.1 _ _ h) hk_X11_items rfl vl_L_122 kc_X11_items (isC_of hk (by decide)) dL_items_2 (Nat.le_of_ble_eq_true rfl) ?hx ?hn
  case hx =>
    rintro E S' hx _ _
    rcases hx with ⟨rfl, h⟩ | ⟨rfl, h⟩
    · refine gr_catch C htab [] (0, 5, 6, 16) [(0, 5, 10, 19)] rfl (fun _ h9 => absurd h9 List.not_mem_nil) (by decide +kernel) (by decide) (by decide) v_i577 n_i590 (fun q => ?_)
      refine gr_astoren C 2 [(2, .ref q), (0, .ref o), (1, .int a1)] dL_items_6 rfl (by decide) rfl ?_
      refine gr_ldc C (-1000002) v_i617 dL_items_7 ?_
      exact gr_iret C Em dL_items_9 h
    · refine gr_catch C htab [(0, 5, 6, 16)] (0, 5, 10, 19) [] rfl (List.forall_mem_cons.mpr ⟨⟨by decide, "java/lang/IllegalArgumentException", v_i577, by decide +kernel, by decide +kernel⟩, fun _ h9 => absurd h9 List.not_mem_nil⟩) (by decide +kernel) (by decide) (by decide) v_i632 n_i649 (fun q => ?_)
      refine gr_astoren C 2 [(2, .ref q), (0, .ref o), (1, .int a1)] dL_items_10 rfl (by decide) rfl ?_
      refine gr_ldc C (-1000003) v_i908 dL_items_11 ?_
      exact gr_iret C Em dL_items_13 h
  case hn =>
    rintro v S' ⟨r, rfl, h⟩ _ _ _
    exact gr_iret C Em dL_items_5 h
def w_L_itemKind (B : Nat × Nat) (o : Nat) (a1 : Int32) (a2 : Int32) (t : LwS) (Q : Int32 → LwS → Prop) : Prop := kdC t.1 o = 14 ∧ w_X11_itemKind B o a1 a2 t.1 (fun r S' => Q r (S', t.2)) (fun E S' => (E = "java/lang/IllegalArgumentException" ∧ Q (-1000002) (S', t.2)) ∨ (E = "java/lang/IllegalStateException" ∧ Q (-1000003) (S', t.2)) ∨ (E = "java/lang/IndexOutOfBoundsException" ∧ Q (-1000001) (S', t.2)))
theorem c_L_itemKind (l : Launch) (D : va_G) (K : Nat → ClassId) (E0 b0 : Nat) (B : Nat × Nat) (o : Nat) (a1 : Int32) (a2 : Int32) (t : LwS) (Q : Int32 → LwS → Prop) (h : w_L_itemKind B o a1 a2 t Q) : MetR l yL_itemKind (.codeWith yL_itemKind cL_itemKind 4 (some .int) [(0, 6, 7, 16), (0, 6, 11, 19), (0, 6, 15, 26)]) 13 [.ref o, .int a1, .int a2] Q D K E0 b0 B t := by
  obtain ⟨hk, h⟩ := h
  refine gr_startH (by decide) rfl (Nat.le_of_ble_eq_true rfl) (fun p e s m args below meth c C htab Em => ?_)
  refine gr_aloadn C 0 0 dL_itemKind_0 rfl rfl ?_
  refine gr_iloadn C 1 1 dL_itemKind_1 rfl rfl ?_
  refine gr_iloadn C 2 2 dL_itemKind_2 rfl rfl ?_
  refine gr_room (fun hr => ?_)
  refine gr_call C (y := yX11_itemKind) (as := [.int a1, .int a2]) (by exact ⟨Nat.le_of_ble_eq_true rfl, Nat.le_of_ble_eq_true rfl⟩) B ⟨Nat.le_refl _, Nat.le_refl _⟩ hr (c_X11_itemKind l D K E0 B _ o a1 a2 t.1 _ _ h) hk_X11_itemKind rfl vl_L_125 kc_X11_itemKind (isC_of hk (by decide)) dL_itemKind_3 (Nat.le_of_ble_eq_true rfl) ?hx ?hn
  case hx =>
    rintro E S' hx _ _
    rcases hx with ⟨rfl, h⟩ | ⟨rfl, h⟩ | ⟨rfl, h⟩
    · refine gr_catch C htab [] (0, 6, 7, 16) [(0, 6, 11, 19), (0, 6, 15, 26)] rfl (fun _ h9 => absurd h9 List.not_mem_nil) (by decide +kernel) (by decide) (by decide) v_i577 n_i590 (fun q => ?_)
      refine gr_astoren C 3 [(3, .ref q), (0, .ref o), (1, .int a1), (2, .int a2)] dL_itemKind_7 rfl (by decide) rfl ?_
      refine gr_ldc C (-1000002) v_i617 dL_itemKind_8 ?_
      exact gr_iret C Em dL_itemKind_10 h
    · refine gr_catch C htab [(0, 6, 7, 16)] (0, 6, 11, 19) [(0, 6, 15, 26)] rfl (List.forall_mem_cons.mpr ⟨⟨by decide, "java/lang/IllegalArgumentException", v_i577, by decide +kernel, by decide +kernel⟩, fun _ h9 => absurd h9 List.not_mem_nil⟩) (by decide +kernel) (by decide) (by decide) v_i632 n_i649 (fun q => ?_)
      refine gr_astoren C 3 [(3, .ref q), (0, .ref o), (1, .int a1), (2, .int a2)] dL_itemKind_11 rfl (by decide) rfl ?_
      refine gr_ldc C (-1000003) v_i908 dL_itemKind_12 ?_
      exact gr_iret C Em dL_itemKind_14 h
    · refine gr_catch C htab [(0, 6, 7, 16), (0, 6, 11, 19)] (0, 6, 15, 26) [] rfl (List.forall_mem_cons.mpr ⟨⟨by decide, "java/lang/IllegalArgumentException", v_i577, by decide +kernel, by decide +kernel⟩, List.forall_mem_cons.mpr ⟨⟨by decide, "java/lang/IllegalStateException", v_i632, by decide +kernel, by decide +kernel⟩, fun _ h9 => absurd h9 List.not_mem_nil⟩⟩) (by decide +kernel) (by decide) (by decide) v_i457 n_i467 (fun q => ?_)
      refine gr_astoren C 3 [(3, .ref q), (0, .ref o), (1, .int a1), (2, .int a2)] dL_itemKind_15 rfl (by decide) rfl ?_
      refine gr_ldc C (-1000001) v_i533 dL_itemKind_16 ?_
      exact gr_iret C Em dL_itemKind_18 h
  case hn =>
    rintro v S' ⟨r, rfl, h⟩ _ _ _
    exact gr_iret C Em dL_itemKind_6 h
def w_L_itemBar (B : Nat × Nat) (o : Nat) (a1 : Int32) (a2 : Int32) (t : LwS) (Q : Int32 → LwS → Prop) : Prop := kdC t.1 o = 14 ∧ w_X11_itemBar B o a1 a2 t.1 (fun r S' => Q r (S', t.2)) (fun E S' => (E = "java/lang/IllegalArgumentException" ∧ Q (-1000002) (S', t.2)) ∨ (E = "java/lang/IllegalStateException" ∧ Q (-1000003) (S', t.2)) ∨ (E = "java/lang/IndexOutOfBoundsException" ∧ Q (-1000001) (S', t.2)))
theorem c_L_itemBar (l : Launch) (D : va_G) (K : Nat → ClassId) (E0 b0 : Nat) (B : Nat × Nat) (o : Nat) (a1 : Int32) (a2 : Int32) (t : LwS) (Q : Int32 → LwS → Prop) (h : w_L_itemBar B o a1 a2 t Q) : MetR l yL_itemBar (.codeWith yL_itemBar cL_itemBar 4 (some .int) [(0, 6, 7, 16), (0, 6, 11, 19), (0, 6, 15, 26)]) 13 [.ref o, .int a1, .int a2] Q D K E0 b0 B t := by
  obtain ⟨hk, h⟩ := h
  refine gr_startH (by decide) rfl (Nat.le_of_ble_eq_true rfl) (fun p e s m args below meth c C htab Em => ?_)
  refine gr_aloadn C 0 0 dL_itemBar_0 rfl rfl ?_
  refine gr_iloadn C 1 1 dL_itemBar_1 rfl rfl ?_
  refine gr_iloadn C 2 2 dL_itemBar_2 rfl rfl ?_
  refine gr_room (fun hr => ?_)
  refine gr_call C (y := yX11_itemBar) (as := [.int a1, .int a2]) (by exact ⟨Nat.le_of_ble_eq_true rfl, Nat.le_of_ble_eq_true rfl⟩) B ⟨Nat.le_refl _, Nat.le_refl _⟩ hr (c_X11_itemBar l D K E0 B _ o a1 a2 t.1 _ _ h) hk_X11_itemBar rfl vl_L_128 kc_X11_itemBar (isC_of hk (by decide)) dL_itemBar_3 (Nat.le_of_ble_eq_true rfl) ?hx ?hn
  case hx =>
    rintro E S' hx _ _
    rcases hx with ⟨rfl, h⟩ | ⟨rfl, h⟩ | ⟨rfl, h⟩
    · refine gr_catch C htab [] (0, 6, 7, 16) [(0, 6, 11, 19), (0, 6, 15, 26)] rfl (fun _ h9 => absurd h9 List.not_mem_nil) (by decide +kernel) (by decide) (by decide) v_i577 n_i590 (fun q => ?_)
      refine gr_astoren C 3 [(3, .ref q), (0, .ref o), (1, .int a1), (2, .int a2)] dL_itemBar_7 rfl (by decide) rfl ?_
      refine gr_ldc C (-1000002) v_i617 dL_itemBar_8 ?_
      exact gr_iret C Em dL_itemBar_10 h
    · refine gr_catch C htab [(0, 6, 7, 16)] (0, 6, 11, 19) [(0, 6, 15, 26)] rfl (List.forall_mem_cons.mpr ⟨⟨by decide, "java/lang/IllegalArgumentException", v_i577, by decide +kernel, by decide +kernel⟩, fun _ h9 => absurd h9 List.not_mem_nil⟩) (by decide +kernel) (by decide) (by decide) v_i632 n_i649 (fun q => ?_)
      refine gr_astoren C 3 [(3, .ref q), (0, .ref o), (1, .int a1), (2, .int a2)] dL_itemBar_11 rfl (by decide) rfl ?_
      refine gr_ldc C (-1000003) v_i908 dL_itemBar_12 ?_
      exact gr_iret C Em dL_itemBar_14 h
    · refine gr_catch C htab [(0, 6, 7, 16), (0, 6, 11, 19)] (0, 6, 15, 26) [] rfl (List.forall_mem_cons.mpr ⟨⟨by decide, "java/lang/IllegalArgumentException", v_i577, by decide +kernel, by decide +kernel⟩, List.forall_mem_cons.mpr ⟨⟨by decide, "java/lang/IllegalStateException", v_i632, by decide +kernel, by decide +kernel⟩, fun _ h9 => absurd h9 List.not_mem_nil⟩⟩) (by decide +kernel) (by decide) (by decide) v_i457 n_i467 (fun q => ?_)
      refine gr_astoren C 3 [(3, .ref q), (0, .ref o), (1, .int a1), (2, .int a2)] dL_itemBar_15 rfl (by decide) rfl ?_
      refine gr_ldc C (-1000001) v_i533 dL_itemBar_16 ?_
      exact gr_iret C Em dL_itemBar_18 h
  case hn =>
    rintro v S' ⟨r, rfl, h⟩ _ _ _
    exact gr_iret C Em dL_itemBar_6 h
def w_L_itemBars (B : Nat × Nat) (o : Nat) (a1 : Int32) (a2 : Int32) (t : LwS) (Q : Int32 → LwS → Prop) : Prop := kdC t.1 o = 14 ∧ w_X11_itemBars B o a1 a2 t.1 (fun r S' => Q r (S', t.2)) (fun E S' => (E = "java/lang/IllegalArgumentException" ∧ Q (-1000002) (S', t.2)) ∨ (E = "java/lang/IllegalStateException" ∧ Q (-1000003) (S', t.2)) ∨ (E = "java/lang/IndexOutOfBoundsException" ∧ Q (-1000001) (S', t.2)))
theorem c_L_itemBars (l : Launch) (D : va_G) (K : Nat → ClassId) (E0 b0 : Nat) (B : Nat × Nat) (o : Nat) (a1 : Int32) (a2 : Int32) (t : LwS) (Q : Int32 → LwS → Prop) (h : w_L_itemBars B o a1 a2 t Q) : MetR l yL_itemBars (.codeWith yL_itemBars cL_itemBars 4 (some .int) [(0, 6, 7, 16), (0, 6, 11, 19), (0, 6, 15, 26)]) 13 [.ref o, .int a1, .int a2] Q D K E0 b0 B t := by
  obtain ⟨hk, h⟩ := h
  refine gr_startH (by decide) rfl (Nat.le_of_ble_eq_true rfl) (fun p e s m args below meth c C htab Em => ?_)
  refine gr_aloadn C 0 0 dL_itemBars_0 rfl rfl ?_
  refine gr_iloadn C 1 1 dL_itemBars_1 rfl rfl ?_
  refine gr_iloadn C 2 2 dL_itemBars_2 rfl rfl ?_
  refine gr_room (fun hr => ?_)
  refine gr_call C (y := yX11_itemBars) (as := [.int a1, .int a2]) (by exact ⟨Nat.le_of_ble_eq_true rfl, Nat.le_of_ble_eq_true rfl⟩) B ⟨Nat.le_refl _, Nat.le_refl _⟩ hr (c_X11_itemBars l D K E0 B _ o a1 a2 t.1 _ _ h) hk_X11_itemBars rfl vl_L_131 kc_X11_itemBars (isC_of hk (by decide)) dL_itemBars_3 (Nat.le_of_ble_eq_true rfl) ?hx ?hn
  case hx =>
    rintro E S' hx _ _
    rcases hx with ⟨rfl, h⟩ | ⟨rfl, h⟩ | ⟨rfl, h⟩
    · refine gr_catch C htab [] (0, 6, 7, 16) [(0, 6, 11, 19), (0, 6, 15, 26)] rfl (fun _ h9 => absurd h9 List.not_mem_nil) (by decide +kernel) (by decide) (by decide) v_i577 n_i590 (fun q => ?_)
      refine gr_astoren C 3 [(3, .ref q), (0, .ref o), (1, .int a1), (2, .int a2)] dL_itemBars_7 rfl (by decide) rfl ?_
      refine gr_ldc C (-1000002) v_i617 dL_itemBars_8 ?_
      exact gr_iret C Em dL_itemBars_10 h
    · refine gr_catch C htab [(0, 6, 7, 16)] (0, 6, 11, 19) [(0, 6, 15, 26)] rfl (List.forall_mem_cons.mpr ⟨⟨by decide, "java/lang/IllegalArgumentException", v_i577, by decide +kernel, by decide +kernel⟩, fun _ h9 => absurd h9 List.not_mem_nil⟩) (by decide +kernel) (by decide) (by decide) v_i632 n_i649 (fun q => ?_)
      refine gr_astoren C 3 [(3, .ref q), (0, .ref o), (1, .int a1), (2, .int a2)] dL_itemBars_11 rfl (by decide) rfl ?_
      refine gr_ldc C (-1000003) v_i908 dL_itemBars_12 ?_
      exact gr_iret C Em dL_itemBars_14 h
    · refine gr_catch C htab [(0, 6, 7, 16), (0, 6, 11, 19)] (0, 6, 15, 26) [] rfl (List.forall_mem_cons.mpr ⟨⟨by decide, "java/lang/IllegalArgumentException", v_i577, by decide +kernel, by decide +kernel⟩, List.forall_mem_cons.mpr ⟨⟨by decide, "java/lang/IllegalStateException", v_i632, by decide +kernel, by decide +kernel⟩, fun _ h9 => absurd h9 List.not_mem_nil⟩⟩) (by decide +kernel) (by decide) (by decide) v_i457 n_i467 (fun q => ?_)
      refine gr_astoren C 3 [(3, .ref q), (0, .ref o), (1, .int a1), (2, .int a2)] dL_itemBars_15 rfl (by decide) rfl ?_
      refine gr_ldc C (-1000001) v_i533 dL_itemBars_16 ?_
      exact gr_iret C Em dL_itemBars_18 h
  case hn =>
    rintro v S' ⟨r, rfl, h⟩ _ _ _
    exact gr_iret C Em dL_itemBars_6 h
def w_L_cue (B : Nat × Nat) (o : Nat) (a1 : Int32) (a2 : Int32) (t : LwS) (Q : Int32 → LwS → Prop) : Prop := kdC t.1 o = 14 ∧ w_X11_cue B o a1 a2 t.1 (fun r S' => Q r (S', t.2)) (fun E S' => (E = "java/lang/IllegalArgumentException" ∧ Q (-1000002) (S', t.2)) ∨ (E = "java/lang/IllegalStateException" ∧ Q (-1000003) (S', t.2)) ∨ (E = "java/lang/IndexOutOfBoundsException" ∧ Q (-1000001) (S', t.2)))
theorem c_L_cue (l : Launch) (D : va_G) (K : Nat → ClassId) (E0 b0 : Nat) (B : Nat × Nat) (o : Nat) (a1 : Int32) (a2 : Int32) (t : LwS) (Q : Int32 → LwS → Prop) (h : w_L_cue B o a1 a2 t Q) : MetR l yL_cue (.codeWith yL_cue cL_cue 4 (some .int) [(0, 6, 7, 16), (0, 6, 11, 19), (0, 6, 15, 26)]) 13 [.ref o, .int a1, .int a2] Q D K E0 b0 B t := by
  obtain ⟨hk, h⟩ := h
  refine gr_startH (by decide) rfl (Nat.le_of_ble_eq_true rfl) (fun p e s m args below meth c C htab Em => ?_)
  refine gr_aloadn C 0 0 dL_cue_0 rfl rfl ?_
  refine gr_iloadn C 1 1 dL_cue_1 rfl rfl ?_
  refine gr_iloadn C 2 2 dL_cue_2 rfl rfl ?_
  refine gr_room (fun hr => ?_)
  refine gr_call C (y := yX11_cue) (as := [.int a1, .int a2]) (by exact ⟨Nat.le_of_ble_eq_true rfl, Nat.le_of_ble_eq_true rfl⟩) B ⟨Nat.le_refl _, Nat.le_refl _⟩ hr (c_X11_cue l D K E0 B _ o a1 a2 t.1 _ _ h) hk_X11_cue rfl vl_L_134 kc_X11_cue (isC_of hk (by decide)) dL_cue_3 (Nat.le_of_ble_eq_true rfl) ?hx ?hn
  case hx =>
    rintro E S' hx _ _
    rcases hx with ⟨rfl, h⟩ | ⟨rfl, h⟩ | ⟨rfl, h⟩
    · refine gr_catch C htab [] (0, 6, 7, 16) [(0, 6, 11, 19), (0, 6, 15, 26)] rfl (fun _ h9 => absurd h9 List.not_mem_nil) (by decide +kernel) (by decide) (by decide) v_i577 n_i590 (fun q => ?_)
      refine gr_astoren C 3 [(3, .ref q), (0, .ref o), (1, .int a1), (2, .int a2)] dL_cue_7 rfl (by decide) rfl ?_
      refine gr_ldc C (-1000002) v_i617 dL_cue_8 ?_
      exact gr_iret C Em dL_cue_10 h
    · refine gr_catch C htab [(0, 6, 7, 16)] (0, 6, 11, 19) [(0, 6, 15, 26)] rfl (List.forall_mem_cons.mpr ⟨⟨by decide, "java/lang/IllegalArgumentException", v_i577, by decide +kernel, by decide +kernel⟩, fun _ h9 => absurd h9 List.not_mem_nil⟩) (by decide +kernel) (by decide) (by decide) v_i632 n_i649 (fun q => ?_)
      refine gr_astoren C 3 [(3, .ref q), (0, .ref o), (1, .int a1), (2, .int a2)] dL_cue_11 rfl (by decide) rfl ?_
      refine gr_ldc C (-1000003) v_i908 dL_cue_12 ?_
      exact gr_iret C Em dL_cue_14 h
    · refine gr_catch C htab [(0, 6, 7, 16), (0, 6, 11, 19)] (0, 6, 15, 26) [] rfl (List.forall_mem_cons.mpr ⟨⟨by decide, "java/lang/IllegalArgumentException", v_i577, by decide +kernel, by decide +kernel⟩, List.forall_mem_cons.mpr ⟨⟨by decide, "java/lang/IllegalStateException", v_i632, by decide +kernel, by decide +kernel⟩, fun _ h9 => absurd h9 List.not_mem_nil⟩⟩) (by decide +kernel) (by decide) (by decide) v_i457 n_i467 (fun q => ?_)
      refine gr_astoren C 3 [(3, .ref q), (0, .ref o), (1, .int a1), (2, .int a2)] dL_cue_15 rfl (by decide) rfl ?_
      refine gr_ldc C (-1000001) v_i533 dL_cue_16 ?_
      exact gr_iret C Em dL_cue_18 h
  case hn =>
    rintro v S' ⟨r, rfl, h⟩ _ _ _
    exact gr_iret C Em dL_cue_6 h
def w_L_itemWidth (B : Nat × Nat) (o : Nat) (a1 : Int32) (a2 : Int32) (t : LwS) (Q : Int32 → LwS → Prop) : Prop := kdC t.1 o = 14 ∧ w_X11_itemWidth B o a1 a2 t.1 (fun r S' => Q r (S', t.2)) (fun E S' => (E = "java/lang/IllegalArgumentException" ∧ Q (-1000002) (S', t.2)) ∨ (E = "java/lang/IllegalStateException" ∧ Q (-1000003) (S', t.2)) ∨ (E = "java/lang/IndexOutOfBoundsException" ∧ Q (-1000001) (S', t.2)))
theorem c_L_itemWidth (l : Launch) (D : va_G) (K : Nat → ClassId) (E0 b0 : Nat) (B : Nat × Nat) (o : Nat) (a1 : Int32) (a2 : Int32) (t : LwS) (Q : Int32 → LwS → Prop) (h : w_L_itemWidth B o a1 a2 t Q) : MetR l yL_itemWidth (.codeWith yL_itemWidth cL_itemWidth 4 (some .int) [(0, 6, 7, 16), (0, 6, 11, 19), (0, 6, 15, 26)]) 13 [.ref o, .int a1, .int a2] Q D K E0 b0 B t := by
  obtain ⟨hk, h⟩ := h
  refine gr_startH (by decide) rfl (Nat.le_of_ble_eq_true rfl) (fun p e s m args below meth c C htab Em => ?_)
  refine gr_aloadn C 0 0 dL_itemWidth_0 rfl rfl ?_
  refine gr_iloadn C 1 1 dL_itemWidth_1 rfl rfl ?_
  refine gr_iloadn C 2 2 dL_itemWidth_2 rfl rfl ?_
  refine gr_room (fun hr => ?_)
  refine gr_call C (y := yX11_itemWidth) (as := [.int a1, .int a2]) (by exact ⟨Nat.le_of_ble_eq_true rfl, Nat.le_of_ble_eq_true rfl⟩) B ⟨Nat.le_refl _, Nat.le_refl _⟩ hr (c_X11_itemWidth l D K E0 B _ o a1 a2 t.1 _ _ h) hk_X11_itemWidth rfl vl_L_137 kc_X11_itemWidth (isC_of hk (by decide)) dL_itemWidth_3 (Nat.le_of_ble_eq_true rfl) ?hx ?hn
  case hx =>
    rintro E S' hx _ _
    rcases hx with ⟨rfl, h⟩ | ⟨rfl, h⟩ | ⟨rfl, h⟩
    · refine gr_catch C htab [] (0, 6, 7, 16) [(0, 6, 11, 19), (0, 6, 15, 26)] rfl (fun _ h9 => absurd h9 List.not_mem_nil) (by decide +kernel) (by decide) (by decide) v_i577 n_i590 (fun q => ?_)
      refine gr_astoren C 3 [(3, .ref q), (0, .ref o), (1, .int a1), (2, .int a2)] dL_itemWidth_7 rfl (by decide) rfl ?_
      refine gr_ldc C (-1000002) v_i617 dL_itemWidth_8 ?_
      exact gr_iret C Em dL_itemWidth_10 h
    · refine gr_catch C htab [(0, 6, 7, 16)] (0, 6, 11, 19) [(0, 6, 15, 26)] rfl (List.forall_mem_cons.mpr ⟨⟨by decide, "java/lang/IllegalArgumentException", v_i577, by decide +kernel, by decide +kernel⟩, fun _ h9 => absurd h9 List.not_mem_nil⟩) (by decide +kernel) (by decide) (by decide) v_i632 n_i649 (fun q => ?_)
      refine gr_astoren C 3 [(3, .ref q), (0, .ref o), (1, .int a1), (2, .int a2)] dL_itemWidth_11 rfl (by decide) rfl ?_
      refine gr_ldc C (-1000003) v_i908 dL_itemWidth_12 ?_
      exact gr_iret C Em dL_itemWidth_14 h
    · refine gr_catch C htab [(0, 6, 7, 16), (0, 6, 11, 19)] (0, 6, 15, 26) [] rfl (List.forall_mem_cons.mpr ⟨⟨by decide, "java/lang/IllegalArgumentException", v_i577, by decide +kernel, by decide +kernel⟩, List.forall_mem_cons.mpr ⟨⟨by decide, "java/lang/IllegalStateException", v_i632, by decide +kernel, by decide +kernel⟩, fun _ h9 => absurd h9 List.not_mem_nil⟩⟩) (by decide +kernel) (by decide) (by decide) v_i457 n_i467 (fun q => ?_)
      refine gr_astoren C 3 [(3, .ref q), (0, .ref o), (1, .int a1), (2, .int a2)] dL_itemWidth_15 rfl (by decide) rfl ?_
      refine gr_ldc C (-1000001) v_i533 dL_itemWidth_16 ?_
      exact gr_iret C Em dL_itemWidth_18 h
  case hn =>
    rintro v S' ⟨r, rfl, h⟩ _ _ _
    exact gr_iret C Em dL_itemWidth_6 h
def w_L_lines (B : Nat × Nat) (o : Nat) (a1 : Int32) (t : LwS) (Q : Int32 → LwS → Prop) : Prop := kdC t.1 o = 14 ∧ w_X11_lines B o a1 t.1 (fun r S' => Q r (S', t.2)) (fun E S' => (E = "java/lang/IllegalArgumentException" ∧ Q (-1000002) (S', t.2)) ∨ (E = "java/lang/IllegalStateException" ∧ Q (-1000003) (S', t.2)))
theorem c_L_lines (l : Launch) (D : va_G) (K : Nat → ClassId) (E0 b0 : Nat) (B : Nat × Nat) (o : Nat) (a1 : Int32) (t : LwS) (Q : Int32 → LwS → Prop) (h : w_L_lines B o a1 t Q) : MetR l yL_lines (.codeWith yL_lines cL_lines 3 (some .int) [(0, 5, 6, 16), (0, 5, 10, 19)]) 13 [.ref o, .int a1] Q D K E0 b0 B t := by
  obtain ⟨hk, h⟩ := h
  refine gr_startH (by decide) rfl (Nat.le_of_ble_eq_true rfl) (fun p e s m args below meth c C htab Em => ?_)
  refine gr_aloadn C 0 0 dL_lines_0 rfl rfl ?_
  refine gr_iloadn C 1 1 dL_lines_1 rfl rfl ?_
  refine gr_room (fun hr => ?_)
  refine gr_call C (y := yX11_lines) (as := [.int a1]) (by exact ⟨Nat.le_of_ble_eq_true rfl, Nat.le_of_ble_eq_true rfl⟩) B ⟨Nat.le_refl _, Nat.le_refl _⟩ hr (c_X11_lines l D K E0 B _ o a1 t.1 _ _ h) hk_X11_lines rfl vl_L_140 kc_X11_lines (isC_of hk (by decide)) dL_lines_2 (Nat.le_of_ble_eq_true rfl) ?hx ?hn
  case hx =>
    rintro E S' hx _ _
    rcases hx with ⟨rfl, h⟩ | ⟨rfl, h⟩
    · refine gr_catch C htab [] (0, 5, 6, 16) [(0, 5, 10, 19)] rfl (fun _ h9 => absurd h9 List.not_mem_nil) (by decide +kernel) (by decide) (by decide) v_i577 n_i590 (fun q => ?_)
      refine gr_astoren C 2 [(2, .ref q), (0, .ref o), (1, .int a1)] dL_lines_6 rfl (by decide) rfl ?_
      refine gr_ldc C (-1000002) v_i617 dL_lines_7 ?_
      exact gr_iret C Em dL_lines_9 h
    · refine gr_catch C htab [(0, 5, 6, 16)] (0, 5, 10, 19) [] rfl (List.forall_mem_cons.mpr ⟨⟨by decide, "java/lang/IllegalArgumentException", v_i577, by decide +kernel, by decide +kernel⟩, fun _ h9 => absurd h9 List.not_mem_nil⟩) (by decide +kernel) (by decide) (by decide) v_i632 n_i649 (fun q => ?_)
      refine gr_astoren C 2 [(2, .ref q), (0, .ref o), (1, .int a1)] dL_lines_10 rfl (by decide) rfl ?_
      refine gr_ldc C (-1000003) v_i908 dL_lines_11 ?_
      exact gr_iret C Em dL_lines_13 h
  case hn =>
    rintro v S' ⟨r, rfl, h⟩ _ _ _
    exact gr_iret C Em dL_lines_5 h
def w_L_firstItem (B : Nat × Nat) (o : Nat) (a1 : Int32) (a2 : Int32) (t : LwS) (Q : Int32 → LwS → Prop) : Prop := kdC t.1 o = 14 ∧ w_X11_firstItem B o a1 a2 t.1 (fun r S' => Q r (S', t.2)) (fun E S' => (E = "java/lang/IllegalArgumentException" ∧ Q (-1000002) (S', t.2)) ∨ (E = "java/lang/IllegalStateException" ∧ Q (-1000003) (S', t.2)) ∨ (E = "java/lang/IndexOutOfBoundsException" ∧ Q (-1000001) (S', t.2)))
theorem c_L_firstItem (l : Launch) (D : va_G) (K : Nat → ClassId) (E0 b0 : Nat) (B : Nat × Nat) (o : Nat) (a1 : Int32) (a2 : Int32) (t : LwS) (Q : Int32 → LwS → Prop) (h : w_L_firstItem B o a1 a2 t Q) : MetR l yL_firstItem (.codeWith yL_firstItem cL_firstItem 4 (some .int) [(0, 6, 7, 16), (0, 6, 11, 19), (0, 6, 15, 26)]) 13 [.ref o, .int a1, .int a2] Q D K E0 b0 B t := by
  obtain ⟨hk, h⟩ := h
  refine gr_startH (by decide) rfl (Nat.le_of_ble_eq_true rfl) (fun p e s m args below meth c C htab Em => ?_)
  refine gr_aloadn C 0 0 dL_firstItem_0 rfl rfl ?_
  refine gr_iloadn C 1 1 dL_firstItem_1 rfl rfl ?_
  refine gr_iloadn C 2 2 dL_firstItem_2 rfl rfl ?_
  refine gr_room (fun hr => ?_)
  refine gr_call C (y := yX11_firstItem) (as := [.int a1, .int a2]) (by exact ⟨Nat.le_of_ble_eq_true rfl, Nat.le_of_ble_eq_true rfl⟩) B ⟨Nat.le_refl _, Nat.le_refl _⟩ hr (c_X11_firstItem l D K E0 B _ o a1 a2 t.1 _ _ h) hk_X11_firstItem rfl vl_L_143 kc_X11_firstItem (isC_of hk (by decide)) dL_firstItem_3 (Nat.le_of_ble_eq_true rfl) ?hx ?hn
  case hx =>
    rintro E S' hx _ _
    rcases hx with ⟨rfl, h⟩ | ⟨rfl, h⟩ | ⟨rfl, h⟩
    · refine gr_catch C htab [] (0, 6, 7, 16) [(0, 6, 11, 19), (0, 6, 15, 26)] rfl (fun _ h9 => absurd h9 List.not_mem_nil) (by decide +kernel) (by decide) (by decide) v_i577 n_i590 (fun q => ?_)
      refine gr_astoren C 3 [(3, .ref q), (0, .ref o), (1, .int a1), (2, .int a2)] dL_firstItem_7 rfl (by decide) rfl ?_
      refine gr_ldc C (-1000002) v_i617 dL_firstItem_8 ?_
      exact gr_iret C Em dL_firstItem_10 h
    · refine gr_catch C htab [(0, 6, 7, 16)] (0, 6, 11, 19) [(0, 6, 15, 26)] rfl (List.forall_mem_cons.mpr ⟨⟨by decide, "java/lang/IllegalArgumentException", v_i577, by decide +kernel, by decide +kernel⟩, fun _ h9 => absurd h9 List.not_mem_nil⟩) (by decide +kernel) (by decide) (by decide) v_i632 n_i649 (fun q => ?_)
      refine gr_astoren C 3 [(3, .ref q), (0, .ref o), (1, .int a1), (2, .int a2)] dL_firstItem_11 rfl (by decide) rfl ?_
      refine gr_ldc C (-1000003) v_i908 dL_firstItem_12 ?_
      exact gr_iret C Em dL_firstItem_14 h
    · refine gr_catch C htab [(0, 6, 7, 16), (0, 6, 11, 19)] (0, 6, 15, 26) [] rfl (List.forall_mem_cons.mpr ⟨⟨by decide, "java/lang/IllegalArgumentException", v_i577, by decide +kernel, by decide +kernel⟩, List.forall_mem_cons.mpr ⟨⟨by decide, "java/lang/IllegalStateException", v_i632, by decide +kernel, by decide +kernel⟩, fun _ h9 => absurd h9 List.not_mem_nil⟩⟩) (by decide +kernel) (by decide) (by decide) v_i457 n_i467 (fun q => ?_)
      refine gr_astoren C 3 [(3, .ref q), (0, .ref o), (1, .int a1), (2, .int a2)] dL_firstItem_15 rfl (by decide) rfl ?_
      refine gr_ldc C (-1000001) v_i533 dL_firstItem_16 ?_
      exact gr_iret C Em dL_firstItem_18 h
  case hn =>
    rintro v S' ⟨r, rfl, h⟩ _ _ _
    exact gr_iret C Em dL_firstItem_6 h
def w_L_badness (B : Nat × Nat) (o : Nat) (a1 : Int32) (t : LwS) (Q : Int32 → LwS → Prop) : Prop := kdC t.1 o = 14 ∧ w_X11_badness B o a1 t.1 (fun r S' => Q r (S', t.2)) (fun E S' => (E = "java/lang/IllegalArgumentException" ∧ Q (-1000002) (S', t.2)) ∨ (E = "java/lang/IllegalStateException" ∧ Q (-1000003) (S', t.2)))
theorem c_L_badness (l : Launch) (D : va_G) (K : Nat → ClassId) (E0 b0 : Nat) (B : Nat × Nat) (o : Nat) (a1 : Int32) (t : LwS) (Q : Int32 → LwS → Prop) (h : w_L_badness B o a1 t Q) : MetR l yL_badness (.codeWith yL_badness cL_badness 3 (some .int) [(0, 5, 6, 16), (0, 5, 10, 19)]) 13 [.ref o, .int a1] Q D K E0 b0 B t := by
  obtain ⟨hk, h⟩ := h
  refine gr_startH (by decide) rfl (Nat.le_of_ble_eq_true rfl) (fun p e s m args below meth c C htab Em => ?_)
  refine gr_aloadn C 0 0 dL_badness_0 rfl rfl ?_
  refine gr_iloadn C 1 1 dL_badness_1 rfl rfl ?_
  refine gr_room (fun hr => ?_)
  refine gr_call C (y := yX11_badness) (as := [.int a1]) (by exact ⟨Nat.le_of_ble_eq_true rfl, Nat.le_of_ble_eq_true rfl⟩) B ⟨Nat.le_refl _, Nat.le_refl _⟩ hr (c_X11_badness l D K E0 B _ o a1 t.1 _ _ h) hk_X11_badness rfl vl_L_146 kc_X11_badness (isC_of hk (by decide)) dL_badness_2 (Nat.le_of_ble_eq_true rfl) ?hx ?hn
  case hx =>
    rintro E S' hx _ _
    rcases hx with ⟨rfl, h⟩ | ⟨rfl, h⟩
    · refine gr_catch C htab [] (0, 5, 6, 16) [(0, 5, 10, 19)] rfl (fun _ h9 => absurd h9 List.not_mem_nil) (by decide +kernel) (by decide) (by decide) v_i577 n_i590 (fun q => ?_)
      refine gr_astoren C 2 [(2, .ref q), (0, .ref o), (1, .int a1)] dL_badness_6 rfl (by decide) rfl ?_
      refine gr_ldc C (-1000002) v_i617 dL_badness_7 ?_
      exact gr_iret C Em dL_badness_9 h
    · refine gr_catch C htab [(0, 5, 6, 16)] (0, 5, 10, 19) [] rfl (List.forall_mem_cons.mpr ⟨⟨by decide, "java/lang/IllegalArgumentException", v_i577, by decide +kernel, by decide +kernel⟩, fun _ h9 => absurd h9 List.not_mem_nil⟩) (by decide +kernel) (by decide) (by decide) v_i632 n_i649 (fun q => ?_)
      refine gr_astoren C 2 [(2, .ref q), (0, .ref o), (1, .int a1)] dL_badness_10 rfl (by decide) rfl ?_
      refine gr_ldc C (-1000003) v_i908 dL_badness_11 ?_
      exact gr_iret C Em dL_badness_13 h
  case hn =>
    rintro v S' ⟨r, rfl, h⟩ _ _ _
    exact gr_iret C Em dL_badness_5 h
def w_L_pages (B : Nat × Nat) (o : Nat) (a1 : Int32) (t : LwS) (Q : Int32 → LwS → Prop) : Prop := kdC t.1 o = 14 ∧ w_X11_pages B o a1 t.1 (fun r S' => Q r (S', t.2)) (fun E S' => (E = "java/lang/IllegalArgumentException" ∧ Q (-1000002) (S', t.2)) ∨ (E = "java/lang/IllegalStateException" ∧ Q (-1000003) (S', t.2)))
theorem c_L_pages (l : Launch) (D : va_G) (K : Nat → ClassId) (E0 b0 : Nat) (B : Nat × Nat) (o : Nat) (a1 : Int32) (t : LwS) (Q : Int32 → LwS → Prop) (h : w_L_pages B o a1 t Q) : MetR l yL_pages (.codeWith yL_pages cL_pages 3 (some .int) [(0, 5, 6, 16), (0, 5, 10, 19)]) 13 [.ref o, .int a1] Q D K E0 b0 B t := by
  obtain ⟨hk, h⟩ := h
  refine gr_startH (by decide) rfl (Nat.le_of_ble_eq_true rfl) (fun p e s m args below meth c C htab Em => ?_)
  refine gr_aloadn C 0 0 dL_pages_0 rfl rfl ?_
  refine gr_iloadn C 1 1 dL_pages_1 rfl rfl ?_
  refine gr_room (fun hr => ?_)
  refine gr_call C (y := yX11_pages) (as := [.int a1]) (by exact ⟨Nat.le_of_ble_eq_true rfl, Nat.le_of_ble_eq_true rfl⟩) B ⟨Nat.le_refl _, Nat.le_refl _⟩ hr (c_X11_pages l D K E0 B _ o a1 t.1 _ _ h) hk_X11_pages rfl vl_L_149 kc_X11_pages (isC_of hk (by decide)) dL_pages_2 (Nat.le_of_ble_eq_true rfl) ?hx ?hn
  case hx =>
    rintro E S' hx _ _
    rcases hx with ⟨rfl, h⟩ | ⟨rfl, h⟩
    · refine gr_catch C htab [] (0, 5, 6, 16) [(0, 5, 10, 19)] rfl (fun _ h9 => absurd h9 List.not_mem_nil) (by decide +kernel) (by decide) (by decide) v_i577 n_i590 (fun q => ?_)
      refine gr_astoren C 2 [(2, .ref q), (0, .ref o), (1, .int a1)] dL_pages_6 rfl (by decide) rfl ?_
      refine gr_ldc C (-1000002) v_i617 dL_pages_7 ?_
      exact gr_iret C Em dL_pages_9 h
    · refine gr_catch C htab [(0, 5, 6, 16)] (0, 5, 10, 19) [] rfl (List.forall_mem_cons.mpr ⟨⟨by decide, "java/lang/IllegalArgumentException", v_i577, by decide +kernel, by decide +kernel⟩, fun _ h9 => absurd h9 List.not_mem_nil⟩) (by decide +kernel) (by decide) (by decide) v_i632 n_i649 (fun q => ?_)
      refine gr_astoren C 2 [(2, .ref q), (0, .ref o), (1, .int a1)] dL_pages_10 rfl (by decide) rfl ?_
      refine gr_ldc C (-1000003) v_i908 dL_pages_11 ?_
      exact gr_iret C Em dL_pages_13 h
  case hn =>
    rintro v S' ⟨r, rfl, h⟩ _ _ _
    exact gr_iret C Em dL_pages_5 h
def w_L_pageLines (B : Nat × Nat) (o : Nat) (a1 : Int32) (a2 : Int32) (t : LwS) (Q : Int32 → LwS → Prop) : Prop := kdC t.1 o = 14 ∧ w_X11_pageLines B o a1 a2 t.1 (fun r S' => Q r (S', t.2)) (fun E S' => (E = "java/lang/IllegalArgumentException" ∧ Q (-1000002) (S', t.2)) ∨ (E = "java/lang/IllegalStateException" ∧ Q (-1000003) (S', t.2)) ∨ (E = "java/lang/IndexOutOfBoundsException" ∧ Q (-1000001) (S', t.2)))
theorem c_L_pageLines (l : Launch) (D : va_G) (K : Nat → ClassId) (E0 b0 : Nat) (B : Nat × Nat) (o : Nat) (a1 : Int32) (a2 : Int32) (t : LwS) (Q : Int32 → LwS → Prop) (h : w_L_pageLines B o a1 a2 t Q) : MetR l yL_pageLines (.codeWith yL_pageLines cL_pageLines 4 (some .int) [(0, 6, 7, 16), (0, 6, 11, 19), (0, 6, 15, 26)]) 13 [.ref o, .int a1, .int a2] Q D K E0 b0 B t := by
  obtain ⟨hk, h⟩ := h
  refine gr_startH (by decide) rfl (Nat.le_of_ble_eq_true rfl) (fun p e s m args below meth c C htab Em => ?_)
  refine gr_aloadn C 0 0 dL_pageLines_0 rfl rfl ?_
  refine gr_iloadn C 1 1 dL_pageLines_1 rfl rfl ?_
  refine gr_iloadn C 2 2 dL_pageLines_2 rfl rfl ?_
  refine gr_room (fun hr => ?_)
  refine gr_call C (y := yX11_pageLines) (as := [.int a1, .int a2]) (by exact ⟨Nat.le_of_ble_eq_true rfl, Nat.le_of_ble_eq_true rfl⟩) B ⟨Nat.le_refl _, Nat.le_refl _⟩ hr (c_X11_pageLines l D K E0 B _ o a1 a2 t.1 _ _ h) hk_X11_pageLines rfl vl_L_152 kc_X11_pageLines (isC_of hk (by decide)) dL_pageLines_3 (Nat.le_of_ble_eq_true rfl) ?hx ?hn
  case hx =>
    rintro E S' hx _ _
    rcases hx with ⟨rfl, h⟩ | ⟨rfl, h⟩ | ⟨rfl, h⟩
    · refine gr_catch C htab [] (0, 6, 7, 16) [(0, 6, 11, 19), (0, 6, 15, 26)] rfl (fun _ h9 => absurd h9 List.not_mem_nil) (by decide +kernel) (by decide) (by decide) v_i577 n_i590 (fun q => ?_)
      refine gr_astoren C 3 [(3, .ref q), (0, .ref o), (1, .int a1), (2, .int a2)] dL_pageLines_7 rfl (by decide) rfl ?_
      refine gr_ldc C (-1000002) v_i617 dL_pageLines_8 ?_
      exact gr_iret C Em dL_pageLines_10 h
    · refine gr_catch C htab [(0, 6, 7, 16)] (0, 6, 11, 19) [(0, 6, 15, 26)] rfl (List.forall_mem_cons.mpr ⟨⟨by decide, "java/lang/IllegalArgumentException", v_i577, by decide +kernel, by decide +kernel⟩, fun _ h9 => absurd h9 List.not_mem_nil⟩) (by decide +kernel) (by decide) (by decide) v_i632 n_i649 (fun q => ?_)
      refine gr_astoren C 3 [(3, .ref q), (0, .ref o), (1, .int a1), (2, .int a2)] dL_pageLines_11 rfl (by decide) rfl ?_
      refine gr_ldc C (-1000003) v_i908 dL_pageLines_12 ?_
      exact gr_iret C Em dL_pageLines_14 h
    · refine gr_catch C htab [(0, 6, 7, 16), (0, 6, 11, 19)] (0, 6, 15, 26) [] rfl (List.forall_mem_cons.mpr ⟨⟨by decide, "java/lang/IllegalArgumentException", v_i577, by decide +kernel, by decide +kernel⟩, List.forall_mem_cons.mpr ⟨⟨by decide, "java/lang/IllegalStateException", v_i632, by decide +kernel, by decide +kernel⟩, fun _ h9 => absurd h9 List.not_mem_nil⟩⟩) (by decide +kernel) (by decide) (by decide) v_i457 n_i467 (fun q => ?_)
      refine gr_astoren C 3 [(3, .ref q), (0, .ref o), (1, .int a1), (2, .int a2)] dL_pageLines_15 rfl (by decide) rfl ?_
      refine gr_ldc C (-1000001) v_i533 dL_pageLines_16 ?_
      exact gr_iret C Em dL_pageLines_18 h
  case hn =>
    rintro v S' ⟨r, rfl, h⟩ _ _ _
    exact gr_iret C Em dL_pageLines_6 h
def w_L_pageOf (B : Nat × Nat) (o : Nat) (a1 : Int32) (a2 : Int32) (t : LwS) (Q : Int32 → LwS → Prop) : Prop := kdC t.1 o = 14 ∧ w_X11_pageOf B o a1 a2 t.1 (fun r S' => Q r (S', t.2)) (fun E S' => (E = "java/lang/IllegalArgumentException" ∧ Q (-1000002) (S', t.2)) ∨ (E = "java/lang/IllegalStateException" ∧ Q (-1000003) (S', t.2)) ∨ (E = "java/lang/IndexOutOfBoundsException" ∧ Q (-1000001) (S', t.2)))
theorem c_L_pageOf (l : Launch) (D : va_G) (K : Nat → ClassId) (E0 b0 : Nat) (B : Nat × Nat) (o : Nat) (a1 : Int32) (a2 : Int32) (t : LwS) (Q : Int32 → LwS → Prop) (h : w_L_pageOf B o a1 a2 t Q) : MetR l yL_pageOf (.codeWith yL_pageOf cL_pageOf 4 (some .int) [(0, 6, 7, 16), (0, 6, 11, 19), (0, 6, 15, 26)]) 13 [.ref o, .int a1, .int a2] Q D K E0 b0 B t := by
  obtain ⟨hk, h⟩ := h
  refine gr_startH (by decide) rfl (Nat.le_of_ble_eq_true rfl) (fun p e s m args below meth c C htab Em => ?_)
  refine gr_aloadn C 0 0 dL_pageOf_0 rfl rfl ?_
  refine gr_iloadn C 1 1 dL_pageOf_1 rfl rfl ?_
  refine gr_iloadn C 2 2 dL_pageOf_2 rfl rfl ?_
  refine gr_room (fun hr => ?_)
  refine gr_call C (y := yX11_pageOf) (as := [.int a1, .int a2]) (by exact ⟨Nat.le_of_ble_eq_true rfl, Nat.le_of_ble_eq_true rfl⟩) B ⟨Nat.le_refl _, Nat.le_refl _⟩ hr (c_X11_pageOf l D K E0 B _ o a1 a2 t.1 _ _ h) hk_X11_pageOf rfl vl_L_155 kc_X11_pageOf (isC_of hk (by decide)) dL_pageOf_3 (Nat.le_of_ble_eq_true rfl) ?hx ?hn
  case hx =>
    rintro E S' hx _ _
    rcases hx with ⟨rfl, h⟩ | ⟨rfl, h⟩ | ⟨rfl, h⟩
    · refine gr_catch C htab [] (0, 6, 7, 16) [(0, 6, 11, 19), (0, 6, 15, 26)] rfl (fun _ h9 => absurd h9 List.not_mem_nil) (by decide +kernel) (by decide) (by decide) v_i577 n_i590 (fun q => ?_)
      refine gr_astoren C 3 [(3, .ref q), (0, .ref o), (1, .int a1), (2, .int a2)] dL_pageOf_7 rfl (by decide) rfl ?_
      refine gr_ldc C (-1000002) v_i617 dL_pageOf_8 ?_
      exact gr_iret C Em dL_pageOf_10 h
    · refine gr_catch C htab [(0, 6, 7, 16)] (0, 6, 11, 19) [(0, 6, 15, 26)] rfl (List.forall_mem_cons.mpr ⟨⟨by decide, "java/lang/IllegalArgumentException", v_i577, by decide +kernel, by decide +kernel⟩, fun _ h9 => absurd h9 List.not_mem_nil⟩) (by decide +kernel) (by decide) (by decide) v_i632 n_i649 (fun q => ?_)
      refine gr_astoren C 3 [(3, .ref q), (0, .ref o), (1, .int a1), (2, .int a2)] dL_pageOf_11 rfl (by decide) rfl ?_
      refine gr_ldc C (-1000003) v_i908 dL_pageOf_12 ?_
      exact gr_iret C Em dL_pageOf_14 h
    · refine gr_catch C htab [(0, 6, 7, 16), (0, 6, 11, 19)] (0, 6, 15, 26) [] rfl (List.forall_mem_cons.mpr ⟨⟨by decide, "java/lang/IllegalArgumentException", v_i577, by decide +kernel, by decide +kernel⟩, List.forall_mem_cons.mpr ⟨⟨by decide, "java/lang/IllegalStateException", v_i632, by decide +kernel, by decide +kernel⟩, fun _ h9 => absurd h9 List.not_mem_nil⟩⟩) (by decide +kernel) (by decide) (by decide) v_i457 n_i467 (fun q => ?_)
      refine gr_astoren C 3 [(3, .ref q), (0, .ref o), (1, .int a1), (2, .int a2)] dL_pageOf_15 rfl (by decide) rfl ?_
      refine gr_ldc C (-1000001) v_i533 dL_pageOf_16 ?_
      exact gr_iret C Em dL_pageOf_18 h
  case hn =>
    rintro v S' ⟨r, rfl, h⟩ _ _ _
    exact gr_iret C Em dL_pageOf_6 h
def w_L_pageTurns (B : Nat × Nat) (o : Nat) (a1 : Int32) (t : LwS) (Q : Int32 → LwS → Prop) : Prop := kdC t.1 o = 14 ∧ w_X11_pageTurns B o a1 t.1 (fun r S' => Q r (S', t.2)) (fun E S' => (E = "java/lang/IllegalArgumentException" ∧ Q (-1000002) (S', t.2)) ∨ (E = "java/lang/IllegalStateException" ∧ Q (-1000003) (S', t.2)))
theorem c_L_pageTurns (l : Launch) (D : va_G) (K : Nat → ClassId) (E0 b0 : Nat) (B : Nat × Nat) (o : Nat) (a1 : Int32) (t : LwS) (Q : Int32 → LwS → Prop) (h : w_L_pageTurns B o a1 t Q) : MetR l yL_pageTurns (.codeWith yL_pageTurns cL_pageTurns 3 (some .int) [(0, 5, 6, 16), (0, 5, 10, 19)]) 13 [.ref o, .int a1] Q D K E0 b0 B t := by
  obtain ⟨hk, h⟩ := h
  refine gr_startH (by decide) rfl (Nat.le_of_ble_eq_true rfl) (fun p e s m args below meth c C htab Em => ?_)
  refine gr_aloadn C 0 0 dL_pageTurns_0 rfl rfl ?_
  refine gr_iloadn C 1 1 dL_pageTurns_1 rfl rfl ?_
  refine gr_room (fun hr => ?_)
  refine gr_call C (y := yX11_pageTurns) (as := [.int a1]) (by exact ⟨Nat.le_of_ble_eq_true rfl, Nat.le_of_ble_eq_true rfl⟩) B ⟨Nat.le_refl _, Nat.le_refl _⟩ hr (c_X11_pageTurns l D K E0 B _ o a1 t.1 _ _ h) hk_X11_pageTurns rfl vl_L_158 kc_X11_pageTurns (isC_of hk (by decide)) dL_pageTurns_2 (Nat.le_of_ble_eq_true rfl) ?hx ?hn
  case hx =>
    rintro E S' hx _ _
    rcases hx with ⟨rfl, h⟩ | ⟨rfl, h⟩
    · refine gr_catch C htab [] (0, 5, 6, 16) [(0, 5, 10, 19)] rfl (fun _ h9 => absurd h9 List.not_mem_nil) (by decide +kernel) (by decide) (by decide) v_i577 n_i590 (fun q => ?_)
      refine gr_astoren C 2 [(2, .ref q), (0, .ref o), (1, .int a1)] dL_pageTurns_6 rfl (by decide) rfl ?_
      refine gr_ldc C (-1000002) v_i617 dL_pageTurns_7 ?_
      exact gr_iret C Em dL_pageTurns_9 h
    · refine gr_catch C htab [(0, 5, 6, 16)] (0, 5, 10, 19) [] rfl (List.forall_mem_cons.mpr ⟨⟨by decide, "java/lang/IllegalArgumentException", v_i577, by decide +kernel, by decide +kernel⟩, fun _ h9 => absurd h9 List.not_mem_nil⟩) (by decide +kernel) (by decide) (by decide) v_i632 n_i649 (fun q => ?_)
      refine gr_astoren C 2 [(2, .ref q), (0, .ref o), (1, .int a1)] dL_pageTurns_10 rfl (by decide) rfl ?_
      refine gr_ldc C (-1000003) v_i908 dL_pageTurns_11 ?_
      exact gr_iret C Em dL_pageTurns_13 h
  case hn =>
    rintro v S' ⟨r, rfl, h⟩ _ _ _
    exact gr_iret C Em dL_pageTurns_5 h
def w_L_turnBar (B : Nat × Nat) (o : Nat) (a1 : Int32) (a2 : Int32) (t : LwS) (Q : Int32 → LwS → Prop) : Prop := kdC t.1 o = 14 ∧ w_X11_turnBar B o a1 a2 t.1 (fun r S' => Q r (S', t.2)) (fun E S' => (E = "java/lang/IllegalArgumentException" ∧ Q (-1000002) (S', t.2)) ∨ (E = "java/lang/IllegalStateException" ∧ Q (-1000003) (S', t.2)) ∨ (E = "java/lang/IndexOutOfBoundsException" ∧ Q (-1000001) (S', t.2)))
theorem c_L_turnBar (l : Launch) (D : va_G) (K : Nat → ClassId) (E0 b0 : Nat) (B : Nat × Nat) (o : Nat) (a1 : Int32) (a2 : Int32) (t : LwS) (Q : Int32 → LwS → Prop) (h : w_L_turnBar B o a1 a2 t Q) : MetR l yL_turnBar (.codeWith yL_turnBar cL_turnBar 4 (some .int) [(0, 6, 7, 16), (0, 6, 11, 19), (0, 6, 15, 26)]) 13 [.ref o, .int a1, .int a2] Q D K E0 b0 B t := by
  obtain ⟨hk, h⟩ := h
  refine gr_startH (by decide) rfl (Nat.le_of_ble_eq_true rfl) (fun p e s m args below meth c C htab Em => ?_)
  refine gr_aloadn C 0 0 dL_turnBar_0 rfl rfl ?_
  refine gr_iloadn C 1 1 dL_turnBar_1 rfl rfl ?_
  refine gr_iloadn C 2 2 dL_turnBar_2 rfl rfl ?_
  refine gr_room (fun hr => ?_)
  refine gr_call C (y := yX11_turnBar) (as := [.int a1, .int a2]) (by exact ⟨Nat.le_of_ble_eq_true rfl, Nat.le_of_ble_eq_true rfl⟩) B ⟨Nat.le_refl _, Nat.le_refl _⟩ hr (c_X11_turnBar l D K E0 B _ o a1 a2 t.1 _ _ h) hk_X11_turnBar rfl vl_L_161 kc_X11_turnBar (isC_of hk (by decide)) dL_turnBar_3 (Nat.le_of_ble_eq_true rfl) ?hx ?hn
  case hx =>
    rintro E S' hx _ _
    rcases hx with ⟨rfl, h⟩ | ⟨rfl, h⟩ | ⟨rfl, h⟩
    · refine gr_catch C htab [] (0, 6, 7, 16) [(0, 6, 11, 19), (0, 6, 15, 26)] rfl (fun _ h9 => absurd h9 List.not_mem_nil) (by decide +kernel) (by decide) (by decide) v_i577 n_i590 (fun q => ?_)
      refine gr_astoren C 3 [(3, .ref q), (0, .ref o), (1, .int a1), (2, .int a2)] dL_turnBar_7 rfl (by decide) rfl ?_
      refine gr_ldc C (-1000002) v_i617 dL_turnBar_8 ?_
      exact gr_iret C Em dL_turnBar_10 h
    · refine gr_catch C htab [(0, 6, 7, 16)] (0, 6, 11, 19) [(0, 6, 15, 26)] rfl (List.forall_mem_cons.mpr ⟨⟨by decide, "java/lang/IllegalArgumentException", v_i577, by decide +kernel, by decide +kernel⟩, fun _ h9 => absurd h9 List.not_mem_nil⟩) (by decide +kernel) (by decide) (by decide) v_i632 n_i649 (fun q => ?_)
      refine gr_astoren C 3 [(3, .ref q), (0, .ref o), (1, .int a1), (2, .int a2)] dL_turnBar_11 rfl (by decide) rfl ?_
      refine gr_ldc C (-1000003) v_i908 dL_turnBar_12 ?_
      exact gr_iret C Em dL_turnBar_14 h
    · refine gr_catch C htab [(0, 6, 7, 16), (0, 6, 11, 19)] (0, 6, 15, 26) [] rfl (List.forall_mem_cons.mpr ⟨⟨by decide, "java/lang/IllegalArgumentException", v_i577, by decide +kernel, by decide +kernel⟩, List.forall_mem_cons.mpr ⟨⟨by decide, "java/lang/IllegalStateException", v_i632, by decide +kernel, by decide +kernel⟩, fun _ h9 => absurd h9 List.not_mem_nil⟩⟩) (by decide +kernel) (by decide) (by decide) v_i457 n_i467 (fun q => ?_)
      refine gr_astoren C 3 [(3, .ref q), (0, .ref o), (1, .int a1), (2, .int a2)] dL_turnBar_15 rfl (by decide) rfl ?_
      refine gr_ldc C (-1000001) v_i533 dL_turnBar_16 ?_
      exact gr_iret C Em dL_turnBar_18 h
  case hn =>
    rintro v S' ⟨r, rfl, h⟩ _ _ _
    exact gr_iret C Em dL_turnBar_6 h
def w_L_turnTime (B : Nat × Nat) (o : Nat) (a1 : Int32) (a2 : Int32) (t : LwS) (Q : Int32 → LwS → Prop) : Prop := kdC t.1 o = 14 ∧ w_X11_turnTime B o a1 a2 t.1 (fun r S' => Q r (S', t.2)) (fun E S' => (E = "java/lang/IllegalArgumentException" ∧ Q (-1000002) (S', t.2)) ∨ (E = "java/lang/IllegalStateException" ∧ Q (-1000003) (S', t.2)) ∨ (E = "java/lang/IndexOutOfBoundsException" ∧ Q (-1000001) (S', t.2)))
theorem c_L_turnTime (l : Launch) (D : va_G) (K : Nat → ClassId) (E0 b0 : Nat) (B : Nat × Nat) (o : Nat) (a1 : Int32) (a2 : Int32) (t : LwS) (Q : Int32 → LwS → Prop) (h : w_L_turnTime B o a1 a2 t Q) : MetR l yL_turnTime (.codeWith yL_turnTime cL_turnTime 4 (some .int) [(0, 6, 7, 16), (0, 6, 11, 19), (0, 6, 15, 26)]) 13 [.ref o, .int a1, .int a2] Q D K E0 b0 B t := by
  obtain ⟨hk, h⟩ := h
  refine gr_startH (by decide) rfl (Nat.le_of_ble_eq_true rfl) (fun p e s m args below meth c C htab Em => ?_)
  refine gr_aloadn C 0 0 dL_turnTime_0 rfl rfl ?_
  refine gr_iloadn C 1 1 dL_turnTime_1 rfl rfl ?_
  refine gr_iloadn C 2 2 dL_turnTime_2 rfl rfl ?_
  refine gr_room (fun hr => ?_)
  refine gr_call C (y := yX11_turnTime) (as := [.int a1, .int a2]) (by exact ⟨Nat.le_of_ble_eq_true rfl, Nat.le_of_ble_eq_true rfl⟩) B ⟨Nat.le_refl _, Nat.le_refl _⟩ hr (c_X11_turnTime l D K E0 B _ o a1 a2 t.1 _ _ h) hk_X11_turnTime rfl vl_L_164 kc_X11_turnTime (isC_of hk (by decide)) dL_turnTime_3 (Nat.le_of_ble_eq_true rfl) ?hx ?hn
  case hx =>
    rintro E S' hx _ _
    rcases hx with ⟨rfl, h⟩ | ⟨rfl, h⟩ | ⟨rfl, h⟩
    · refine gr_catch C htab [] (0, 6, 7, 16) [(0, 6, 11, 19), (0, 6, 15, 26)] rfl (fun _ h9 => absurd h9 List.not_mem_nil) (by decide +kernel) (by decide) (by decide) v_i577 n_i590 (fun q => ?_)
      refine gr_astoren C 3 [(3, .ref q), (0, .ref o), (1, .int a1), (2, .int a2)] dL_turnTime_7 rfl (by decide) rfl ?_
      refine gr_ldc C (-1000002) v_i617 dL_turnTime_8 ?_
      exact gr_iret C Em dL_turnTime_10 h
    · refine gr_catch C htab [(0, 6, 7, 16)] (0, 6, 11, 19) [(0, 6, 15, 26)] rfl (List.forall_mem_cons.mpr ⟨⟨by decide, "java/lang/IllegalArgumentException", v_i577, by decide +kernel, by decide +kernel⟩, fun _ h9 => absurd h9 List.not_mem_nil⟩) (by decide +kernel) (by decide) (by decide) v_i632 n_i649 (fun q => ?_)
      refine gr_astoren C 3 [(3, .ref q), (0, .ref o), (1, .int a1), (2, .int a2)] dL_turnTime_11 rfl (by decide) rfl ?_
      refine gr_ldc C (-1000003) v_i908 dL_turnTime_12 ?_
      exact gr_iret C Em dL_turnTime_14 h
    · refine gr_catch C htab [(0, 6, 7, 16), (0, 6, 11, 19)] (0, 6, 15, 26) [] rfl (List.forall_mem_cons.mpr ⟨⟨by decide, "java/lang/IllegalArgumentException", v_i577, by decide +kernel, by decide +kernel⟩, List.forall_mem_cons.mpr ⟨⟨by decide, "java/lang/IllegalStateException", v_i632, by decide +kernel, by decide +kernel⟩, fun _ h9 => absurd h9 List.not_mem_nil⟩⟩) (by decide +kernel) (by decide) (by decide) v_i457 n_i467 (fun q => ?_)
      refine gr_astoren C 3 [(3, .ref q), (0, .ref o), (1, .int a1), (2, .int a2)] dL_turnTime_15 rfl (by decide) rfl ?_
      refine gr_ldc C (-1000001) v_i533 dL_turnTime_16 ?_
      exact gr_iret C Em dL_turnTime_18 h
  case hn =>
    rintro v S' ⟨r, rfl, h⟩ _ _ _
    exact gr_iret C Em dL_turnTime_6 h
def w_L_turnRest (B : Nat × Nat) (o : Nat) (a1 : Int32) (a2 : Int32) (t : LwS) (Q : Int32 → LwS → Prop) : Prop := kdC t.1 o = 14 ∧ w_X11_turnRest B o a1 a2 t.1 (fun r S' => Q r (S', t.2)) (fun E S' => (E = "java/lang/IllegalArgumentException" ∧ Q (-1000002) (S', t.2)) ∨ (E = "java/lang/IllegalStateException" ∧ Q (-1000003) (S', t.2)) ∨ (E = "java/lang/IndexOutOfBoundsException" ∧ Q (-1000001) (S', t.2)))
theorem c_L_turnRest (l : Launch) (D : va_G) (K : Nat → ClassId) (E0 b0 : Nat) (B : Nat × Nat) (o : Nat) (a1 : Int32) (a2 : Int32) (t : LwS) (Q : Int32 → LwS → Prop) (h : w_L_turnRest B o a1 a2 t Q) : MetR l yL_turnRest (.codeWith yL_turnRest cL_turnRest 4 (some .int) [(0, 6, 7, 16), (0, 6, 11, 19), (0, 6, 15, 26)]) 13 [.ref o, .int a1, .int a2] Q D K E0 b0 B t := by
  obtain ⟨hk, h⟩ := h
  refine gr_startH (by decide) rfl (Nat.le_of_ble_eq_true rfl) (fun p e s m args below meth c C htab Em => ?_)
  refine gr_aloadn C 0 0 dL_turnRest_0 rfl rfl ?_
  refine gr_iloadn C 1 1 dL_turnRest_1 rfl rfl ?_
  refine gr_iloadn C 2 2 dL_turnRest_2 rfl rfl ?_
  refine gr_room (fun hr => ?_)
  refine gr_call C (y := yX11_turnRest) (as := [.int a1, .int a2]) (by exact ⟨Nat.le_of_ble_eq_true rfl, Nat.le_of_ble_eq_true rfl⟩) B ⟨Nat.le_refl _, Nat.le_refl _⟩ hr (c_X11_turnRest l D K E0 B _ o a1 a2 t.1 _ _ h) hk_X11_turnRest rfl vl_L_167 kc_X11_turnRest (isC_of hk (by decide)) dL_turnRest_3 (Nat.le_of_ble_eq_true rfl) ?hx ?hn
  case hx =>
    rintro E S' hx _ _
    rcases hx with ⟨rfl, h⟩ | ⟨rfl, h⟩ | ⟨rfl, h⟩
    · refine gr_catch C htab [] (0, 6, 7, 16) [(0, 6, 11, 19), (0, 6, 15, 26)] rfl (fun _ h9 => absurd h9 List.not_mem_nil) (by decide +kernel) (by decide) (by decide) v_i577 n_i590 (fun q => ?_)
      refine gr_astoren C 3 [(3, .ref q), (0, .ref o), (1, .int a1), (2, .int a2)] dL_turnRest_7 rfl (by decide) rfl ?_
      refine gr_ldc C (-1000002) v_i617 dL_turnRest_8 ?_
      exact gr_iret C Em dL_turnRest_10 h
    · refine gr_catch C htab [(0, 6, 7, 16)] (0, 6, 11, 19) [(0, 6, 15, 26)] rfl (List.forall_mem_cons.mpr ⟨⟨by decide, "java/lang/IllegalArgumentException", v_i577, by decide +kernel, by decide +kernel⟩, fun _ h9 => absurd h9 List.not_mem_nil⟩) (by decide +kernel) (by decide) (by decide) v_i632 n_i649 (fun q => ?_)
      refine gr_astoren C 3 [(3, .ref q), (0, .ref o), (1, .int a1), (2, .int a2)] dL_turnRest_11 rfl (by decide) rfl ?_
      refine gr_ldc C (-1000003) v_i908 dL_turnRest_12 ?_
      exact gr_iret C Em dL_turnRest_14 h
    · refine gr_catch C htab [(0, 6, 7, 16), (0, 6, 11, 19)] (0, 6, 15, 26) [] rfl (List.forall_mem_cons.mpr ⟨⟨by decide, "java/lang/IllegalArgumentException", v_i577, by decide +kernel, by decide +kernel⟩, List.forall_mem_cons.mpr ⟨⟨by decide, "java/lang/IllegalStateException", v_i632, by decide +kernel, by decide +kernel⟩, fun _ h9 => absurd h9 List.not_mem_nil⟩⟩) (by decide +kernel) (by decide) (by decide) v_i457 n_i467 (fun q => ?_)
      refine gr_astoren C 3 [(3, .ref q), (0, .ref o), (1, .int a1), (2, .int a2)] dL_turnRest_15 rfl (by decide) rfl ?_
      refine gr_ldc C (-1000001) v_i533 dL_turnRest_16 ?_
      exact gr_iret C Em dL_turnRest_18 h
  case hn =>
    rintro v S' ⟨r, rfl, h⟩ _ _ _
    exact gr_iret C Em dL_turnRest_6 h
def w_L_badTurns (B : Nat × Nat) (o : Nat) (a1 : Int32) (t : LwS) (Q : Int32 → LwS → Prop) : Prop := kdC t.1 o = 14 ∧ w_X11_badTurns B o a1 t.1 (fun r S' => Q r (S', t.2)) (fun E S' => (E = "java/lang/IllegalArgumentException" ∧ Q (-1000002) (S', t.2)) ∨ (E = "java/lang/IllegalStateException" ∧ Q (-1000003) (S', t.2)))
theorem c_L_badTurns (l : Launch) (D : va_G) (K : Nat → ClassId) (E0 b0 : Nat) (B : Nat × Nat) (o : Nat) (a1 : Int32) (t : LwS) (Q : Int32 → LwS → Prop) (h : w_L_badTurns B o a1 t Q) : MetR l yL_badTurns (.codeWith yL_badTurns cL_badTurns 3 (some .int) [(0, 5, 6, 16), (0, 5, 10, 19)]) 13 [.ref o, .int a1] Q D K E0 b0 B t := by
  obtain ⟨hk, h⟩ := h
  refine gr_startH (by decide) rfl (Nat.le_of_ble_eq_true rfl) (fun p e s m args below meth c C htab Em => ?_)
  refine gr_aloadn C 0 0 dL_badTurns_0 rfl rfl ?_
  refine gr_iloadn C 1 1 dL_badTurns_1 rfl rfl ?_
  refine gr_room (fun hr => ?_)
  refine gr_call C (y := yX11_badTurns) (as := [.int a1]) (by exact ⟨Nat.le_of_ble_eq_true rfl, Nat.le_of_ble_eq_true rfl⟩) B ⟨Nat.le_refl _, Nat.le_refl _⟩ hr (c_X11_badTurns l D K E0 B _ o a1 t.1 _ _ h) hk_X11_badTurns rfl vl_L_170 kc_X11_badTurns (isC_of hk (by decide)) dL_badTurns_2 (Nat.le_of_ble_eq_true rfl) ?hx ?hn
  case hx =>
    rintro E S' hx _ _
    rcases hx with ⟨rfl, h⟩ | ⟨rfl, h⟩
    · refine gr_catch C htab [] (0, 5, 6, 16) [(0, 5, 10, 19)] rfl (fun _ h9 => absurd h9 List.not_mem_nil) (by decide +kernel) (by decide) (by decide) v_i577 n_i590 (fun q => ?_)
      refine gr_astoren C 2 [(2, .ref q), (0, .ref o), (1, .int a1)] dL_badTurns_6 rfl (by decide) rfl ?_
      refine gr_ldc C (-1000002) v_i617 dL_badTurns_7 ?_
      exact gr_iret C Em dL_badTurns_9 h
    · refine gr_catch C htab [(0, 5, 6, 16)] (0, 5, 10, 19) [] rfl (List.forall_mem_cons.mpr ⟨⟨by decide, "java/lang/IllegalArgumentException", v_i577, by decide +kernel, by decide +kernel⟩, fun _ h9 => absurd h9 List.not_mem_nil⟩) (by decide +kernel) (by decide) (by decide) v_i632 n_i649 (fun q => ?_)
      refine gr_astoren C 2 [(2, .ref q), (0, .ref o), (1, .int a1)] dL_badTurns_10 rfl (by decide) rfl ?_
      refine gr_ldc C (-1000003) v_i908 dL_badTurns_11 ?_
      exact gr_iret C Em dL_badTurns_13 h
  case hn =>
    rintro v S' ⟨r, rfl, h⟩ _ _ _
    exact gr_iret C Em dL_badTurns_5 h
def w_L_sheets (B : Nat × Nat) (o : Nat) (a1 : Int32) (t : LwS) (Q : Int32 → LwS → Prop) : Prop := kdC t.1 o = 14 ∧ w_X11_sheets B o a1 t.1 (fun r S' => Q r (S', t.2)) (fun E S' => (E = "java/lang/IllegalArgumentException" ∧ Q (-1000002) (S', t.2)) ∨ (E = "java/lang/IllegalStateException" ∧ Q (-1000003) (S', t.2)))
theorem c_L_sheets (l : Launch) (D : va_G) (K : Nat → ClassId) (E0 b0 : Nat) (B : Nat × Nat) (o : Nat) (a1 : Int32) (t : LwS) (Q : Int32 → LwS → Prop) (h : w_L_sheets B o a1 t Q) : MetR l yL_sheets (.codeWith yL_sheets cL_sheets 3 (some .int) [(0, 5, 6, 16), (0, 5, 10, 19)]) 13 [.ref o, .int a1] Q D K E0 b0 B t := by
  obtain ⟨hk, h⟩ := h
  refine gr_startH (by decide) rfl (Nat.le_of_ble_eq_true rfl) (fun p e s m args below meth c C htab Em => ?_)
  refine gr_aloadn C 0 0 dL_sheets_0 rfl rfl ?_
  refine gr_iloadn C 1 1 dL_sheets_1 rfl rfl ?_
  refine gr_room (fun hr => ?_)
  refine gr_call C (y := yX11_sheets) (as := [.int a1]) (by exact ⟨Nat.le_of_ble_eq_true rfl, Nat.le_of_ble_eq_true rfl⟩) B ⟨Nat.le_refl _, Nat.le_refl _⟩ hr (c_X11_sheets l D K E0 B _ o a1 t.1 _ _ h) hk_X11_sheets rfl vl_L_173 kc_X11_sheets (isC_of hk (by decide)) dL_sheets_2 (Nat.le_of_ble_eq_true rfl) ?hx ?hn
  case hx =>
    rintro E S' hx _ _
    rcases hx with ⟨rfl, h⟩ | ⟨rfl, h⟩
    · refine gr_catch C htab [] (0, 5, 6, 16) [(0, 5, 10, 19)] rfl (fun _ h9 => absurd h9 List.not_mem_nil) (by decide +kernel) (by decide) (by decide) v_i577 n_i590 (fun q => ?_)
      refine gr_astoren C 2 [(2, .ref q), (0, .ref o), (1, .int a1)] dL_sheets_6 rfl (by decide) rfl ?_
      refine gr_ldc C (-1000002) v_i617 dL_sheets_7 ?_
      exact gr_iret C Em dL_sheets_9 h
    · refine gr_catch C htab [(0, 5, 6, 16)] (0, 5, 10, 19) [] rfl (List.forall_mem_cons.mpr ⟨⟨by decide, "java/lang/IllegalArgumentException", v_i577, by decide +kernel, by decide +kernel⟩, fun _ h9 => absurd h9 List.not_mem_nil⟩) (by decide +kernel) (by decide) (by decide) v_i632 n_i649 (fun q => ?_)
      refine gr_astoren C 2 [(2, .ref q), (0, .ref o), (1, .int a1)] dL_sheets_10 rfl (by decide) rfl ?_
      refine gr_ldc C (-1000003) v_i908 dL_sheets_11 ?_
      exact gr_iret C Em dL_sheets_13 h
  case hn =>
    rintro v S' ⟨r, rfl, h⟩ _ _ _
    exact gr_iret C Em dL_sheets_5 h
def w_L_sheetPage (B : Nat × Nat) (o : Nat) (a1 : Int32) (a2 : Int32) (a3 : Int32) (a4 : Int32) (t : LwS) (Q : Int32 → LwS → Prop) : Prop := kdC t.1 o = 14 ∧ w_X11_sheetPage B o a1 a2 a3 a4 t.1 (fun r S' => Q r (S', t.2)) (fun E S' => (E = "java/lang/IllegalArgumentException" ∧ Q (-1000002) (S', t.2)) ∨ (E = "java/lang/IllegalStateException" ∧ Q (-1000003) (S', t.2)) ∨ (E = "java/lang/IndexOutOfBoundsException" ∧ Q (-1000001) (S', t.2)))
theorem c_L_sheetPage (l : Launch) (D : va_G) (K : Nat → ClassId) (E0 b0 : Nat) (B : Nat × Nat) (o : Nat) (a1 : Int32) (a2 : Int32) (a3 : Int32) (a4 : Int32) (t : LwS) (Q : Int32 → LwS → Prop) (h : w_L_sheetPage B o a1 a2 a3 a4 t Q) : MetR l yL_sheetPage (.codeWith yL_sheetPage cL_sheetPage 6 (some .int) [(0, 9, 10, 16), (0, 9, 15, 19), (0, 9, 20, 26)]) 13 [.ref o, .int a1, .int a2, .int a3, .int a4] Q D K E0 b0 B t := by
  obtain ⟨hk, h⟩ := h
  refine gr_startH (by decide) rfl (Nat.le_of_ble_eq_true rfl) (fun p e s m args below meth c C htab Em => ?_)
  refine gr_aloadn C 0 0 dL_sheetPage_0 rfl rfl ?_
  refine gr_iloadn C 1 1 dL_sheetPage_1 rfl rfl ?_
  refine gr_iloadn C 2 2 dL_sheetPage_2 rfl rfl ?_
  refine gr_iloadn C 3 3 dL_sheetPage_3 rfl rfl ?_
  refine gr_iload C 4 dL_sheetPage_4 rfl ?_
  refine gr_room (fun hr => ?_)
  refine gr_call C (y := yX11_sheetPage) (as := [.int a1, .int a2, .int a3, .int a4]) (by exact ⟨Nat.le_of_ble_eq_true rfl, Nat.le_of_ble_eq_true rfl⟩) B ⟨Nat.le_refl _, Nat.le_refl _⟩ hr (c_X11_sheetPage l D K E0 B _ o a1 a2 a3 a4 t.1 _ _ h) hk_X11_sheetPage rfl vl_L_176 kc_X11_sheetPage (isC_of hk (by decide)) dL_sheetPage_6 (Nat.le_of_ble_eq_true rfl) ?hx ?hn
  case hx =>
    rintro E S' hx _ _
    rcases hx with ⟨rfl, h⟩ | ⟨rfl, h⟩ | ⟨rfl, h⟩
    · refine gr_catch C htab [] (0, 9, 10, 16) [(0, 9, 15, 19), (0, 9, 20, 26)] rfl (fun _ h9 => absurd h9 List.not_mem_nil) (by decide +kernel) (by decide) (by decide) v_i577 n_i590 (fun q => ?_)
      refine gr_astore C [(5, .ref q), (0, .ref o), (1, .int a1), (2, .int a2), (3, .int a3), (4, .int a4)] dL_sheetPage_10 (by decide) rfl ?_
      refine gr_ldc C (-1000002) v_i617 dL_sheetPage_12 ?_
      exact gr_iret C Em dL_sheetPage_14 h
    · refine gr_catch C htab [(0, 9, 10, 16)] (0, 9, 15, 19) [(0, 9, 20, 26)] rfl (List.forall_mem_cons.mpr ⟨⟨by decide, "java/lang/IllegalArgumentException", v_i577, by decide +kernel, by decide +kernel⟩, fun _ h9 => absurd h9 List.not_mem_nil⟩) (by decide +kernel) (by decide) (by decide) v_i632 n_i649 (fun q => ?_)
      refine gr_astore C [(5, .ref q), (0, .ref o), (1, .int a1), (2, .int a2), (3, .int a3), (4, .int a4)] dL_sheetPage_15 (by decide) rfl ?_
      refine gr_ldc C (-1000003) v_i908 dL_sheetPage_17 ?_
      exact gr_iret C Em dL_sheetPage_19 h
    · refine gr_catch C htab [(0, 9, 10, 16), (0, 9, 15, 19)] (0, 9, 20, 26) [] rfl (List.forall_mem_cons.mpr ⟨⟨by decide, "java/lang/IllegalArgumentException", v_i577, by decide +kernel, by decide +kernel⟩, List.forall_mem_cons.mpr ⟨⟨by decide, "java/lang/IllegalStateException", v_i632, by decide +kernel, by decide +kernel⟩, fun _ h9 => absurd h9 List.not_mem_nil⟩⟩) (by decide +kernel) (by decide) (by decide) v_i457 n_i467 (fun q => ?_)
      refine gr_astore C [(5, .ref q), (0, .ref o), (1, .int a1), (2, .int a2), (3, .int a3), (4, .int a4)] dL_sheetPage_20 (by decide) rfl ?_
      refine gr_ldc C (-1000001) v_i533 dL_sheetPage_22 ?_
      exact gr_iret C Em dL_sheetPage_24 h
  case hn =>
    rintro v S' ⟨r, rfl, h⟩ _ _ _
    exact gr_iret C Em dL_sheetPage_9 h
