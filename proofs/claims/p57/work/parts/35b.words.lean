/-! WORDS OF THE LAW (2) -/
theorem v_i948 : Cond.selects RX11 yX11_soundPitch yX11_soundPitch ∈ wU := w_at 948 (by decide +kernel) (by decide +kernel)
theorem vl_L_112 : ∀ w ∈ ([.methodLink RL 112 yX11_soundPitch, .instanceMethod yX11_soundPitch, .selects RX11 yX11_soundPitch yX11_soundPitch, .initialized RX11] : List Cond), w ∈ wU := w_4 v_i946 v_i947 v_i948 v_i28
theorem kc_L_loudness : Cond.codeWith yL_loudness cL_loudness 3 (some .int) [(0, 5, 6, 26)] ∈ wU := w_at 952 (by decide +kernel) (by decide +kernel)
theorem hk_L_loudness : yL_loudness.cls = RL ∧ yL_loudness.cls ≠ "java/lang/invoke/MethodHandle" ∧ yL_loudness.cls ≠ "java/lang/invoke/VarHandle" ∧ (parseMethodDescriptor yL_loudness.desc).map (fun d => d.parameters.length) = some 2 := by decide +kernel
theorem v_i953 : Cond.methodLink RL 115 yX11_loudness ∈ wU := w_at 953 (by decide +kernel) (by decide +kernel)
theorem v_i954 : Cond.instanceMethod yX11_loudness ∈ wU := w_at 954 (by decide +kernel) (by decide +kernel)
theorem v_i955 : Cond.selects RX11 yX11_loudness yX11_loudness ∈ wU := w_at 955 (by decide +kernel) (by decide +kernel)
theorem vl_L_115 : ∀ w ∈ ([.methodLink RL 115 yX11_loudness, .instanceMethod yX11_loudness, .selects RX11 yX11_loudness yX11_loudness, .initialized RX11] : List Cond), w ∈ wU := w_4 v_i953 v_i954 v_i955 v_i28
theorem kc_L_setPaper : Cond.codeWith yL_setPaper cL_setPaper 5 (some .int) [(0, 8, 9, 16)] ∈ wU := w_at 1287 (by decide +kernel) (by decide +kernel)
theorem hk_L_setPaper : yL_setPaper.cls = RL ∧ yL_setPaper.cls ≠ "java/lang/invoke/MethodHandle" ∧ yL_setPaper.cls ≠ "java/lang/invoke/VarHandle" ∧ (parseMethodDescriptor yL_setPaper.desc).map (fun d => d.parameters.length) = some 4 := by decide +kernel
theorem v_i1288 : Cond.methodLink RL 118 yX11_setPaper ∈ wU := w_at 1288 (by decide +kernel) (by decide +kernel)
theorem v_i1289 : Cond.instanceMethod yX11_setPaper ∈ wU := w_at 1289 (by decide +kernel) (by decide +kernel)
theorem v_i1290 : Cond.selects RX11 yX11_setPaper yX11_setPaper ∈ wU := w_at 1290 (by decide +kernel) (by decide +kernel)
theorem vl_L_118 : ∀ w ∈ ([.methodLink RL 118 yX11_setPaper, .instanceMethod yX11_setPaper, .selects RX11 yX11_setPaper yX11_setPaper, .initialized RX11] : List Cond), w ∈ wU := w_4 v_i1288 v_i1289 v_i1290 v_i28
theorem kc_L_items : Cond.codeWith yL_items cL_items 3 (some .int) [(0, 5, 6, 16), (0, 5, 10, 19)] ∈ wU := w_at 631 (by decide +kernel) (by decide +kernel)
theorem hk_L_items : yL_items.cls = RL ∧ yL_items.cls ≠ "java/lang/invoke/MethodHandle" ∧ yL_items.cls ≠ "java/lang/invoke/VarHandle" ∧ (parseMethodDescriptor yL_items.desc).map (fun d => d.parameters.length) = some 2 := by decide +kernel
theorem v_i633 : Cond.methodLink RL 122 yX11_items ∈ wU := w_at 633 (by decide +kernel) (by decide +kernel)
theorem v_i634 : Cond.instanceMethod yX11_items ∈ wU := w_at 634 (by decide +kernel) (by decide +kernel)
theorem v_i635 : Cond.selects RX11 yX11_items yX11_items ∈ wU := w_at 635 (by decide +kernel) (by decide +kernel)
theorem vl_L_122 : ∀ w ∈ ([.methodLink RL 122 yX11_items, .instanceMethod yX11_items, .selects RX11 yX11_items yX11_items, .initialized RX11] : List Cond), w ∈ wU := w_4 v_i633 v_i634 v_i635 v_i28
theorem kc_L_itemKind : Cond.codeWith yL_itemKind cL_itemKind 4 (some .int) [(0, 6, 7, 16), (0, 6, 11, 19), (0, 6, 15, 26)] ∈ wU := w_at 969 (by decide +kernel) (by decide +kernel)
theorem hk_L_itemKind : yL_itemKind.cls = RL ∧ yL_itemKind.cls ≠ "java/lang/invoke/MethodHandle" ∧ yL_itemKind.cls ≠ "java/lang/invoke/VarHandle" ∧ (parseMethodDescriptor yL_itemKind.desc).map (fun d => d.parameters.length) = some 3 := by decide +kernel
theorem v_i970 : Cond.methodLink RL 125 yX11_itemKind ∈ wU := w_at 970 (by decide +kernel) (by decide +kernel)
theorem v_i971 : Cond.instanceMethod yX11_itemKind ∈ wU := w_at 971 (by decide +kernel) (by decide +kernel)
theorem v_i972 : Cond.selects RX11 yX11_itemKind yX11_itemKind ∈ wU := w_at 972 (by decide +kernel) (by decide +kernel)
theorem vl_L_125 : ∀ w ∈ ([.methodLink RL 125 yX11_itemKind, .instanceMethod yX11_itemKind, .selects RX11 yX11_itemKind yX11_itemKind, .initialized RX11] : List Cond), w ∈ wU := w_4 v_i970 v_i971 v_i972 v_i28
theorem kc_L_itemBar : Cond.codeWith yL_itemBar cL_itemBar 4 (some .int) [(0, 6, 7, 16), (0, 6, 11, 19), (0, 6, 15, 26)] ∈ wU := w_at 990 (by decide +kernel) (by decide +kernel)
theorem hk_L_itemBar : yL_itemBar.cls = RL ∧ yL_itemBar.cls ≠ "java/lang/invoke/MethodHandle" ∧ yL_itemBar.cls ≠ "java/lang/invoke/VarHandle" ∧ (parseMethodDescriptor yL_itemBar.desc).map (fun d => d.parameters.length) = some 3 := by decide +kernel
theorem v_i991 : Cond.methodLink RL 128 yX11_itemBar ∈ wU := w_at 991 (by decide +kernel) (by decide +kernel)
theorem v_i992 : Cond.instanceMethod yX11_itemBar ∈ wU := w_at 992 (by decide +kernel) (by decide +kernel)
theorem v_i993 : Cond.selects RX11 yX11_itemBar yX11_itemBar ∈ wU := w_at 993 (by decide +kernel) (by decide +kernel)
theorem vl_L_128 : ∀ w ∈ ([.methodLink RL 128 yX11_itemBar, .instanceMethod yX11_itemBar, .selects RX11 yX11_itemBar yX11_itemBar, .initialized RX11] : List Cond), w ∈ wU := w_4 v_i991 v_i992 v_i993 v_i28
theorem kc_L_itemBars : Cond.codeWith yL_itemBars cL_itemBars 4 (some .int) [(0, 6, 7, 16), (0, 6, 11, 19), (0, 6, 15, 26)] ∈ wU := w_at 976 (by decide +kernel) (by decide +kernel)
theorem hk_L_itemBars : yL_itemBars.cls = RL ∧ yL_itemBars.cls ≠ "java/lang/invoke/MethodHandle" ∧ yL_itemBars.cls ≠ "java/lang/invoke/VarHandle" ∧ (parseMethodDescriptor yL_itemBars.desc).map (fun d => d.parameters.length) = some 3 := by decide +kernel
theorem v_i977 : Cond.methodLink RL 131 yX11_itemBars ∈ wU := w_at 977 (by decide +kernel) (by decide +kernel)
theorem v_i978 : Cond.instanceMethod yX11_itemBars ∈ wU := w_at 978 (by decide +kernel) (by decide +kernel)
theorem v_i979 : Cond.selects RX11 yX11_itemBars yX11_itemBars ∈ wU := w_at 979 (by decide +kernel) (by decide +kernel)
theorem vl_L_131 : ∀ w ∈ ([.methodLink RL 131 yX11_itemBars, .instanceMethod yX11_itemBars, .selects RX11 yX11_itemBars yX11_itemBars, .initialized RX11] : List Cond), w ∈ wU := w_4 v_i977 v_i978 v_i979 v_i28
theorem kc_L_cue : Cond.codeWith yL_cue cL_cue 4 (some .int) [(0, 6, 7, 16), (0, 6, 11, 19), (0, 6, 15, 26)] ∈ wU := w_at 983 (by decide +kernel) (by decide +kernel)
theorem hk_L_cue : yL_cue.cls = RL ∧ yL_cue.cls ≠ "java/lang/invoke/MethodHandle" ∧ yL_cue.cls ≠ "java/lang/invoke/VarHandle" ∧ (parseMethodDescriptor yL_cue.desc).map (fun d => d.parameters.length) = some 3 := by decide +kernel
theorem v_i984 : Cond.methodLink RL 134 yX11_cue ∈ wU := w_at 984 (by decide +kernel) (by decide +kernel)
theorem v_i985 : Cond.instanceMethod yX11_cue ∈ wU := w_at 985 (by decide +kernel) (by decide +kernel)
theorem v_i986 : Cond.selects RX11 yX11_cue yX11_cue ∈ wU := w_at 986 (by decide +kernel) (by decide +kernel)
theorem vl_L_134 : ∀ w ∈ ([.methodLink RL 134 yX11_cue, .instanceMethod yX11_cue, .selects RX11 yX11_cue yX11_cue, .initialized RX11] : List Cond), w ∈ wU := w_4 v_i984 v_i985 v_i986 v_i28
theorem kc_L_itemWidth : Cond.codeWith yL_itemWidth cL_itemWidth 4 (some .int) [(0, 6, 7, 16), (0, 6, 11, 19), (0, 6, 15, 26)] ∈ wU := w_at 997 (by decide +kernel) (by decide +kernel)
theorem hk_L_itemWidth : yL_itemWidth.cls = RL ∧ yL_itemWidth.cls ≠ "java/lang/invoke/MethodHandle" ∧ yL_itemWidth.cls ≠ "java/lang/invoke/VarHandle" ∧ (parseMethodDescriptor yL_itemWidth.desc).map (fun d => d.parameters.length) = some 3 := by decide +kernel
theorem v_i998 : Cond.methodLink RL 137 yX11_itemWidth ∈ wU := w_at 998 (by decide +kernel) (by decide +kernel)
theorem v_i999 : Cond.instanceMethod yX11_itemWidth ∈ wU := w_at 999 (by decide +kernel) (by decide +kernel)
theorem v_i1000 : Cond.selects RX11 yX11_itemWidth yX11_itemWidth ∈ wU := w_at 1000 (by decide +kernel) (by decide +kernel)
theorem vl_L_137 : ∀ w ∈ ([.methodLink RL 137 yX11_itemWidth, .instanceMethod yX11_itemWidth, .selects RX11 yX11_itemWidth yX11_itemWidth, .initialized RX11] : List Cond), w ∈ wU := w_4 v_i998 v_i999 v_i1000 v_i28
theorem kc_L_lines : Cond.codeWith yL_lines cL_lines 3 (some .int) [(0, 5, 6, 16), (0, 5, 10, 19)] ∈ wU := w_at 1021 (by decide +kernel) (by decide +kernel)
theorem hk_L_lines : yL_lines.cls = RL ∧ yL_lines.cls ≠ "java/lang/invoke/MethodHandle" ∧ yL_lines.cls ≠ "java/lang/invoke/VarHandle" ∧ (parseMethodDescriptor yL_lines.desc).map (fun d => d.parameters.length) = some 2 := by decide +kernel
theorem v_i1022 : Cond.methodLink RL 140 yX11_lines ∈ wU := w_at 1022 (by decide +kernel) (by decide +kernel)
theorem v_i1023 : Cond.instanceMethod yX11_lines ∈ wU := w_at 1023 (by decide +kernel) (by decide +kernel)
theorem v_i1024 : Cond.selects RX11 yX11_lines yX11_lines ∈ wU := w_at 1024 (by decide +kernel) (by decide +kernel)
theorem vl_L_140 : ∀ w ∈ ([.methodLink RL 140 yX11_lines, .instanceMethod yX11_lines, .selects RX11 yX11_lines yX11_lines, .initialized RX11] : List Cond), w ∈ wU := w_4 v_i1022 v_i1023 v_i1024 v_i28
theorem kc_L_firstItem : Cond.codeWith yL_firstItem cL_firstItem 4 (some .int) [(0, 6, 7, 16), (0, 6, 11, 19), (0, 6, 15, 26)] ∈ wU := w_at 1028 (by decide +kernel) (by decide +kernel)
theorem hk_L_firstItem : yL_firstItem.cls = RL ∧ yL_firstItem.cls ≠ "java/lang/invoke/MethodHandle" ∧ yL_firstItem.cls ≠ "java/lang/invoke/VarHandle" ∧ (parseMethodDescriptor yL_firstItem.desc).map (fun d => d.parameters.length) = some 3 := by decide +kernel
theorem v_i1029 : Cond.methodLink RL 143 yX11_firstItem ∈ wU := w_at 1029 (by decide +kernel) (by decide +kernel)
theorem v_i1030 : Cond.instanceMethod yX11_firstItem ∈ wU := w_at 1030 (by decide +kernel) (by decide +kernel)
theorem v_i1031 : Cond.selects RX11 yX11_firstItem yX11_firstItem ∈ wU := w_at 1031 (by decide +kernel) (by decide +kernel)
theorem vl_L_143 : ∀ w ∈ ([.methodLink RL 143 yX11_firstItem, .instanceMethod yX11_firstItem, .selects RX11 yX11_firstItem yX11_firstItem, .initialized RX11] : List Cond), w ∈ wU := w_4 v_i1029 v_i1030 v_i1031 v_i28
theorem kc_L_badness : Cond.codeWith yL_badness cL_badness 3 (some .int) [(0, 5, 6, 16), (0, 5, 10, 19)] ∈ wU := w_at 959 (by decide +kernel) (by decide +kernel)
theorem hk_L_badness : yL_badness.cls = RL ∧ yL_badness.cls ≠ "java/lang/invoke/MethodHandle" ∧ yL_badness.cls ≠ "java/lang/invoke/VarHandle" ∧ (parseMethodDescriptor yL_badness.desc).map (fun d => d.parameters.length) = some 2 := by decide +kernel
theorem v_i960 : Cond.methodLink RL 146 yX11_badness ∈ wU := w_at 960 (by decide +kernel) (by decide +kernel)
theorem v_i961 : Cond.instanceMethod yX11_badness ∈ wU := w_at 961 (by decide +kernel) (by decide +kernel)
theorem v_i962 : Cond.selects RX11 yX11_badness yX11_badness ∈ wU := w_at 962 (by decide +kernel) (by decide +kernel)
theorem vl_L_146 : ∀ w ∈ ([.methodLink RL 146 yX11_badness, .instanceMethod yX11_badness, .selects RX11 yX11_badness yX11_badness, .initialized RX11] : List Cond), w ∈ wU := w_4 v_i960 v_i961 v_i962 v_i28
theorem kc_L_pages : Cond.codeWith yL_pages cL_pages 3 (some .int) [(0, 5, 6, 16), (0, 5, 10, 19)] ∈ wU := w_at 1038 (by decide +kernel) (by decide +kernel)
theorem hk_L_pages : yL_pages.cls = RL ∧ yL_pages.cls ≠ "java/lang/invoke/MethodHandle" ∧ yL_pages.cls ≠ "java/lang/invoke/VarHandle" ∧ (parseMethodDescriptor yL_pages.desc).map (fun d => d.parameters.length) = some 2 := by decide +kernel
theorem v_i1039 : Cond.methodLink RL 149 yX11_pages ∈ wU := w_at 1039 (by decide +kernel) (by decide +kernel)
theorem v_i1040 : Cond.instanceMethod yX11_pages ∈ wU := w_at 1040 (by decide +kernel) (by decide +kernel)
theorem v_i1041 : Cond.selects RX11 yX11_pages yX11_pages ∈ wU := w_at 1041 (by decide +kernel) (by decide +kernel)
theorem vl_L_149 : ∀ w ∈ ([.methodLink RL 149 yX11_pages, .instanceMethod yX11_pages, .selects RX11 yX11_pages yX11_pages, .initialized RX11] : List Cond), w ∈ wU := w_4 v_i1039 v_i1040 v_i1041 v_i28
theorem kc_L_pageLines : Cond.codeWith yL_pageLines cL_pageLines 4 (some .int) [(0, 6, 7, 16), (0, 6, 11, 19), (0, 6, 15, 26)] ∈ wU := w_at 1045 (by decide +kernel) (by decide +kernel)
theorem hk_L_pageLines : yL_pageLines.cls = RL ∧ yL_pageLines.cls ≠ "java/lang/invoke/MethodHandle" ∧ yL_pageLines.cls ≠ "java/lang/invoke/VarHandle" ∧ (parseMethodDescriptor yL_pageLines.desc).map (fun d => d.parameters.length) = some 3 := by decide +kernel
theorem v_i1046 : Cond.methodLink RL 152 yX11_pageLines ∈ wU := w_at 1046 (by decide +kernel) (by decide +kernel)
theorem v_i1047 : Cond.instanceMethod yX11_pageLines ∈ wU := w_at 1047 (by decide +kernel) (by decide +kernel)
theorem v_i1048 : Cond.selects RX11 yX11_pageLines yX11_pageLines ∈ wU := w_at 1048 (by decide +kernel) (by decide +kernel)
theorem vl_L_152 : ∀ w ∈ ([.methodLink RL 152 yX11_pageLines, .instanceMethod yX11_pageLines, .selects RX11 yX11_pageLines yX11_pageLines, .initialized RX11] : List Cond), w ∈ wU := w_4 v_i1046 v_i1047 v_i1048 v_i28
theorem kc_L_pageOf : Cond.codeWith yL_pageOf cL_pageOf 4 (some .int) [(0, 6, 7, 16), (0, 6, 11, 19), (0, 6, 15, 26)] ∈ wU := w_at 1073 (by decide +kernel) (by decide +kernel)
theorem hk_L_pageOf : yL_pageOf.cls = RL ∧ yL_pageOf.cls ≠ "java/lang/invoke/MethodHandle" ∧ yL_pageOf.cls ≠ "java/lang/invoke/VarHandle" ∧ (parseMethodDescriptor yL_pageOf.desc).map (fun d => d.parameters.length) = some 3 := by decide +kernel
theorem v_i1074 : Cond.methodLink RL 155 yX11_pageOf ∈ wU := w_at 1074 (by decide +kernel) (by decide +kernel)
theorem v_i1075 : Cond.instanceMethod yX11_pageOf ∈ wU := w_at 1075 (by decide +kernel) (by decide +kernel)
theorem v_i1076 : Cond.selects RX11 yX11_pageOf yX11_pageOf ∈ wU := w_at 1076 (by decide +kernel) (by decide +kernel)
theorem vl_L_155 : ∀ w ∈ ([.methodLink RL 155 yX11_pageOf, .instanceMethod yX11_pageOf, .selects RX11 yX11_pageOf yX11_pageOf, .initialized RX11] : List Cond), w ∈ wU := w_4 v_i1074 v_i1075 v_i1076 v_i28
theorem kc_L_pageTurns : Cond.codeWith yL_pageTurns cL_pageTurns 3 (some .int) [(0, 5, 6, 16), (0, 5, 10, 19)] ∈ wU := w_at 1098 (by decide +kernel) (by decide +kernel)
theorem hk_L_pageTurns : yL_pageTurns.cls = RL ∧ yL_pageTurns.cls ≠ "java/lang/invoke/MethodHandle" ∧ yL_pageTurns.cls ≠ "java/lang/invoke/VarHandle" ∧ (parseMethodDescriptor yL_pageTurns.desc).map (fun d => d.parameters.length) = some 2 := by decide +kernel
theorem v_i1099 : Cond.methodLink RL 158 yX11_pageTurns ∈ wU := w_at 1099 (by decide +kernel) (by decide +kernel)
theorem v_i1100 : Cond.instanceMethod yX11_pageTurns ∈ wU := w_at 1100 (by decide +kernel) (by decide +kernel)
theorem v_i1101 : Cond.selects RX11 yX11_pageTurns yX11_pageTurns ∈ wU := w_at 1101 (by decide +kernel) (by decide +kernel)
theorem vl_L_158 : ∀ w ∈ ([.methodLink RL 158 yX11_pageTurns, .instanceMethod yX11_pageTurns, .selects RX11 yX11_pageTurns yX11_pageTurns, .initialized RX11] : List Cond), w ∈ wU := w_4 v_i1099 v_i1100 v_i1101 v_i28
theorem kc_L_turnBar : Cond.codeWith yL_turnBar cL_turnBar 4 (some .int) [(0, 6, 7, 16), (0, 6, 11, 19), (0, 6, 15, 26)] ∈ wU := w_at 1059 (by decide +kernel) (by decide +kernel)
theorem hk_L_turnBar : yL_turnBar.cls = RL ∧ yL_turnBar.cls ≠ "java/lang/invoke/MethodHandle" ∧ yL_turnBar.cls ≠ "java/lang/invoke/VarHandle" ∧ (parseMethodDescriptor yL_turnBar.desc).map (fun d => d.parameters.length) = some 3 := by decide +kernel
theorem v_i1060 : Cond.methodLink RL 161 yX11_turnBar ∈ wU := w_at 1060 (by decide +kernel) (by decide +kernel)
theorem v_i1061 : Cond.instanceMethod yX11_turnBar ∈ wU := w_at 1061 (by decide +kernel) (by decide +kernel)
theorem v_i1062 : Cond.selects RX11 yX11_turnBar yX11_turnBar ∈ wU := w_at 1062 (by decide +kernel) (by decide +kernel)
theorem vl_L_161 : ∀ w ∈ ([.methodLink RL 161 yX11_turnBar, .instanceMethod yX11_turnBar, .selects RX11 yX11_turnBar yX11_turnBar, .initialized RX11] : List Cond), w ∈ wU := w_4 v_i1060 v_i1061 v_i1062 v_i28
theorem kc_L_turnTime : Cond.codeWith yL_turnTime cL_turnTime 4 (some .int) [(0, 6, 7, 16), (0, 6, 11, 19), (0, 6, 15, 26)] ∈ wU := w_at 1066 (by decide +kernel) (by decide +kernel)
theorem hk_L_turnTime : yL_turnTime.cls = RL ∧ yL_turnTime.cls ≠ "java/lang/invoke/MethodHandle" ∧ yL_turnTime.cls ≠ "java/lang/invoke/VarHandle" ∧ (parseMethodDescriptor yL_turnTime.desc).map (fun d => d.parameters.length) = some 3 := by decide +kernel
theorem v_i1067 : Cond.methodLink RL 164 yX11_turnTime ∈ wU := w_at 1067 (by decide +kernel) (by decide +kernel)
theorem v_i1068 : Cond.instanceMethod yX11_turnTime ∈ wU := w_at 1068 (by decide +kernel) (by decide +kernel)
theorem v_i1069 : Cond.selects RX11 yX11_turnTime yX11_turnTime ∈ wU := w_at 1069 (by decide +kernel) (by decide +kernel)
theorem vl_L_164 : ∀ w ∈ ([.methodLink RL 164 yX11_turnTime, .instanceMethod yX11_turnTime, .selects RX11 yX11_turnTime yX11_turnTime, .initialized RX11] : List Cond), w ∈ wU := w_4 v_i1067 v_i1068 v_i1069 v_i28
theorem kc_L_turnRest : Cond.codeWith yL_turnRest cL_turnRest 4 (some .int) [(0, 6, 7, 16), (0, 6, 11, 19), (0, 6, 15, 26)] ∈ wU := w_at 1052 (by decide +kernel) (by decide +kernel)
theorem hk_L_turnRest : yL_turnRest.cls = RL ∧ yL_turnRest.cls ≠ "java/lang/invoke/MethodHandle" ∧ yL_turnRest.cls ≠ "java/lang/invoke/VarHandle" ∧ (parseMethodDescriptor yL_turnRest.desc).map (fun d => d.parameters.length) = some 3 := by decide +kernel
theorem v_i1053 : Cond.methodLink RL 167 yX11_turnRest ∈ wU := w_at 1053 (by decide +kernel) (by decide +kernel)
theorem v_i1054 : Cond.instanceMethod yX11_turnRest ∈ wU := w_at 1054 (by decide +kernel) (by decide +kernel)
theorem v_i1055 : Cond.selects RX11 yX11_turnRest yX11_turnRest ∈ wU := w_at 1055 (by decide +kernel) (by decide +kernel)
theorem vl_L_167 : ∀ w ∈ ([.methodLink RL 167 yX11_turnRest, .instanceMethod yX11_turnRest, .selects RX11 yX11_turnRest yX11_turnRest, .initialized RX11] : List Cond), w ∈ wU := w_4 v_i1053 v_i1054 v_i1055 v_i28
theorem kc_L_badTurns : Cond.codeWith yL_badTurns cL_badTurns 3 (some .int) [(0, 5, 6, 16), (0, 5, 10, 19)] ∈ wU := w_at 1105 (by decide +kernel) (by decide +kernel)
theorem hk_L_badTurns : yL_badTurns.cls = RL ∧ yL_badTurns.cls ≠ "java/lang/invoke/MethodHandle" ∧ yL_badTurns.cls ≠ "java/lang/invoke/VarHandle" ∧ (parseMethodDescriptor yL_badTurns.desc).map (fun d => d.parameters.length) = some 2 := by decide +kernel
theorem v_i1106 : Cond.methodLink RL 170 yX11_badTurns ∈ wU := w_at 1106 (by decide +kernel) (by decide +kernel)
theorem v_i1107 : Cond.instanceMethod yX11_badTurns ∈ wU := w_at 1107 (by decide +kernel) (by decide +kernel)
theorem v_i1108 : Cond.selects RX11 yX11_badTurns yX11_badTurns ∈ wU := w_at 1108 (by decide +kernel) (by decide +kernel)
theorem vl_L_170 : ∀ w ∈ ([.methodLink RL 170 yX11_badTurns, .instanceMethod yX11_badTurns, .selects RX11 yX11_badTurns yX11_badTurns, .initialized RX11] : List Cond), w ∈ wU := w_4 v_i1106 v_i1107 v_i1108 v_i28
theorem kc_L_sheets : Cond.codeWith yL_sheets cL_sheets 3 (some .int) [(0, 5, 6, 16), (0, 5, 10, 19)] ∈ wU := w_at 1088 (by decide +kernel) (by decide +kernel)
theorem hk_L_sheets : yL_sheets.cls = RL ∧ yL_sheets.cls ≠ "java/lang/invoke/MethodHandle" ∧ yL_sheets.cls ≠ "java/lang/invoke/VarHandle" ∧ (parseMethodDescriptor yL_sheets.desc).map (fun d => d.parameters.length) = some 2 := by decide +kernel
theorem v_i1089 : Cond.methodLink RL 173 yX11_sheets ∈ wU := w_at 1089 (by decide +kernel) (by decide +kernel)
theorem v_i1090 : Cond.instanceMethod yX11_sheets ∈ wU := w_at 1090 (by decide +kernel) (by decide +kernel)
theorem v_i1091 : Cond.selects RX11 yX11_sheets yX11_sheets ∈ wU := w_at 1091 (by decide +kernel) (by decide +kernel)
theorem vl_L_173 : ∀ w ∈ ([.methodLink RL 173 yX11_sheets, .instanceMethod yX11_sheets, .selects RX11 yX11_sheets yX11_sheets, .initialized RX11] : List Cond), w ∈ wU := w_4 v_i1089 v_i1090 v_i1091 v_i28
theorem kc_L_sheetPage : Cond.codeWith yL_sheetPage cL_sheetPage 6 (some .int) [(0, 9, 10, 16), (0, 9, 15, 19), (0, 9, 20, 26)] ∈ wU := w_at 1116 (by decide +kernel) (by decide +kernel)
theorem hk_L_sheetPage : yL_sheetPage.cls = RL ∧ yL_sheetPage.cls ≠ "java/lang/invoke/MethodHandle" ∧ yL_sheetPage.cls ≠ "java/lang/invoke/VarHandle" ∧ (parseMethodDescriptor yL_sheetPage.desc).map (fun d => d.parameters.length) = some 5 := by decide +kernel
theorem v_i1117 : Cond.methodLink RL 176 yX11_sheetPage ∈ wU := w_at 1117 (by decide +kernel) (by decide +kernel)
theorem v_i1118 : Cond.instanceMethod yX11_sheetPage ∈ wU := w_at 1118 (by decide +kernel) (by decide +kernel)
theorem v_i1119 : Cond.selects RX11 yX11_sheetPage yX11_sheetPage ∈ wU := w_at 1119 (by decide +kernel) (by decide +kernel)
theorem vl_L_176 : ∀ w ∈ ([.methodLink RL 176 yX11_sheetPage, .instanceMethod yX11_sheetPage, .selects RX11 yX11_sheetPage yX11_sheetPage, .initialized RX11] : List Cond), w ∈ wU := w_4 v_i1117 v_i1118 v_i1119 v_i28
theorem kc_L_ticksOf : Cond.code yL_ticksOf cL_ticksOf 3 (some .int) ∈ wU := w_at 1710 (w_atC (by decide +kernel) (by decide +kernel)) (by decide +kernel)
theorem hk_L_ticksOf : yL_ticksOf.cls = RL ∧ yL_ticksOf.cls ≠ "java/lang/invoke/MethodHandle" ∧ yL_ticksOf.cls ≠ "java/lang/invoke/VarHandle" ∧ (parseMethodDescriptor yL_ticksOf.desc).map (fun d => d.parameters.length) = some 2 := by decide +kernel
theorem kc_L_isPlayed : Cond.code yL_isPlayed cL_isPlayed 8 (some .boolean) ∈ wU := w_at 453 (w_atC (by decide +kernel) (by decide +kernel)) (by decide +kernel)
theorem hk_L_isPlayed : yL_isPlayed.cls = RL ∧ yL_isPlayed.cls ≠ "java/lang/invoke/MethodHandle" ∧ yL_isPlayed.cls ≠ "java/lang/invoke/VarHandle" ∧ (parseMethodDescriptor yL_isPlayed.desc).map (fun d => d.parameters.length) = some 2 := by decide +kernel
theorem v_i232 : Cond.methodLink RL 180 yX11_places ∈ wU := w_at 232 (by decide +kernel) (by decide +kernel)
theorem v_i233 : Cond.instanceMethod yX11_places ∈ wU := w_at 233 (by decide +kernel) (by decide +kernel)
theorem v_i234 : Cond.selects RX11 yX11_places yX11_places ∈ wU := w_at 234 (by decide +kernel) (by decide +kernel)
theorem vl_L_180 : ∀ w ∈ ([.methodLink RL 180 yX11_places, .instanceMethod yX11_places, .selects RX11 yX11_places yX11_places, .initialized RX11] : List Cond), w ∈ wU := w_4 v_i232 v_i233 v_i234 v_i28
theorem v_i570 : Cond.methodLink RL 197 yX11_playingTime ∈ wU := w_at 570 (by decide +kernel) (by decide +kernel)
theorem v_i571 : Cond.instanceMethod yX11_playingTime ∈ wU := w_at 571 (by decide +kernel) (by decide +kernel)
theorem v_i572 : Cond.selects RX11 yX11_playingTime yX11_playingTime ∈ wU := w_at 572 (by decide +kernel) (by decide +kernel)
theorem vl_L_197 : ∀ w ∈ ([.methodLink RL 197 yX11_playingTime, .instanceMethod yX11_playingTime, .selects RX11 yX11_playingTime yX11_playingTime, .initialized RX11] : List Cond), w ∈ wU := w_4 v_i570 v_i571 v_i572 v_i28
theorem v_i618 : Cond.methodLink RL 206 yL_timeByEvents ∈ wU := w_at 618 (by decide +kernel) (by decide +kernel)
theorem v_i619 : Cond.static yL_timeByEvents ∈ wU := w_at 619 (by decide +kernel) (by decide +kernel)
theorem v_i27 : Cond.initialized RL ∈ wU := w_at 27 (by decide +kernel) (by decide +kernel)
theorem vs_L_206 : ∀ w ∈ ([.methodLink RL 206 yL_timeByEvents, .static yL_timeByEvents, .initialized RL] : List Cond), w ∈ wU := w_3 v_i618 v_i619 v_i27
theorem v_i541 : Cond.methodLink RL 191 yL_time ∈ wU := w_at 541 (by decide +kernel) (by decide +kernel)
theorem v_i542 : Cond.static yL_time ∈ wU := w_at 542 (by decide +kernel) (by decide +kernel)
theorem vs_L_191 : ∀ w ∈ ([.methodLink RL 191 yL_time, .static yL_time, .initialized RL] : List Cond), w ∈ wU := w_3 v_i541 v_i542 v_i27
theorem v_i553 : Cond.methodLink RL 193 yL_length ∈ wU := w_at 553 (by decide +kernel) (by decide +kernel)
theorem v_i554 : Cond.static yL_length ∈ wU := w_at 554 (by decide +kernel) (by decide +kernel)
theorem vs_L_193 : ∀ w ∈ ([.methodLink RL 193 yL_length, .static yL_length, .initialized RL] : List Cond), w ∈ wU := w_3 v_i553 v_i554 v_i27
theorem v_i562 : Cond.methodLink RL 195 yL_tempo ∈ wU := w_at 562 (by decide +kernel) (by decide +kernel)
theorem v_i563 : Cond.static yL_tempo ∈ wU := w_at 563 (by decide +kernel) (by decide +kernel)
theorem vs_L_195 : ∀ w ∈ ([.methodLink RL 195 yL_tempo, .static yL_tempo, .initialized RL] : List Cond), w ∈ wU := w_3 v_i562 v_i563 v_i27
theorem v_i629 : Cond.methodLink RL 208 yL_items ∈ wU := w_at 629 (by decide +kernel) (by decide +kernel)
theorem v_i630 : Cond.static yL_items ∈ wU := w_at 630 (by decide +kernel) (by decide +kernel)
theorem vs_L_208 : ∀ w ∈ ([.methodLink RL 208 yL_items, .static yL_items, .initialized RL] : List Cond), w ∈ wU := w_3 v_i629 v_i630 v_i27
theorem v_i574 : Cond.methodLink RL 203 yL_isRight ∈ wU := w_at 574 (by decide +kernel) (by decide +kernel)
theorem v_i575 : Cond.static yL_isRight ∈ wU := w_at 575 (by decide +kernel) (by decide +kernel)
theorem vs_L_203 : ∀ w ∈ ([.methodLink RL 203 yL_isRight, .static yL_isRight, .initialized RL] : List Cond), w ∈ wU := w_3 v_i574 v_i575 v_i27
theorem v_i454 : Cond.methodLink RL 184 yL_barAt ∈ wU := w_at 454 (by decide +kernel) (by decide +kernel)
theorem v_i455 : Cond.static yL_barAt ∈ wU := w_at 455 (by decide +kernel) (by decide +kernel)
theorem vs_L_184 : ∀ w ∈ ([.methodLink RL 184 yL_barAt, .static yL_barAt, .initialized RL] : List Cond), w ∈ wU := w_3 v_i454 v_i455 v_i27
theorem v_i534 : Cond.methodLink RL 189 yL_startOf ∈ wU := w_at 534 (by decide +kernel) (by decide +kernel)
theorem v_i535 : Cond.static yL_startOf ∈ wU := w_at 535 (by decide +kernel) (by decide +kernel)
theorem vs_L_189 : ∀ w ∈ ([.methodLink RL 189 yL_startOf, .static yL_startOf, .initialized RL] : List Cond), w ∈ wU := w_3 v_i534 v_i535 v_i27
theorem v_i197 : Cond.methodLink RL 200 yX11_bars ∈ wU := w_at 197 (by decide +kernel) (by decide +kernel)
theorem v_i198 : Cond.instanceMethod yX11_bars ∈ wU := w_at 198 (by decide +kernel) (by decide +kernel)
theorem v_i199 : Cond.selects RX11 yX11_bars yX11_bars ∈ wU := w_at 199 (by decide +kernel) (by decide +kernel)
theorem vl_L_200 : ∀ w ∈ ([.methodLink RL 200 yX11_bars, .instanceMethod yX11_bars, .selects RX11 yX11_bars yX11_bars, .initialized RX11] : List Cond), w ∈ wU := w_4 v_i197 v_i198 v_i199 v_i28
theorem kc_L_areSounds : Cond.code yL_areSounds cL_areSounds 12 (some .boolean) ∈ wU := w_at 911 (w_atC (by decide +kernel) (by decide +kernel)) (by decide +kernel)
theorem hk_L_areSounds : yL_areSounds.cls = RL ∧ yL_areSounds.cls ≠ "java/lang/invoke/MethodHandle" ∧ yL_areSounds.cls ≠ "java/lang/invoke/VarHandle" ∧ (parseMethodDescriptor yL_areSounds.desc).map (fun d => d.parameters.length) = some 2 := by decide +kernel
theorem v_i439 : Cond.methodLink RL 210 yX11_sounds ∈ wU := w_at 439 (by decide +kernel) (by decide +kernel)
theorem v_i440 : Cond.instanceMethod yX11_sounds ∈ wU := w_at 440 (by decide +kernel) (by decide +kernel)
theorem v_i441 : Cond.selects RX11 yX11_sounds yX11_sounds ∈ wU := w_at 441 (by decide +kernel) (by decide +kernel)
theorem vl_L_210 : ∀ w ∈ ([.methodLink RL 210 yX11_sounds, .instanceMethod yX11_sounds, .selects RX11 yX11_sounds yX11_sounds, .initialized RX11] : List Cond), w ∈ wU := w_4 v_i439 v_i440 v_i441 v_i28
theorem v_i912 : Cond.methodLink RL 213 yL_low ∈ wU := w_at 912 (by decide +kernel) (by decide +kernel)
theorem v_i913 : Cond.static yL_low ∈ wU := w_at 913 (by decide +kernel) (by decide +kernel)
theorem vs_L_213 : ∀ w ∈ ([.methodLink RL 213 yL_low, .static yL_low, .initialized RL] : List Cond), w ∈ wU := w_3 v_i912 v_i913 v_i27
theorem v_i916 : Cond.methodLink RL 216 yL_soundVoice ∈ wU := w_at 916 (by decide +kernel) (by decide +kernel)
theorem v_i917 : Cond.static yL_soundVoice ∈ wU := w_at 917 (by decide +kernel) (by decide +kernel)
