theorem cu_thrown : Cond.code yX12_thrown cX12_thrown 1 (some .int) ∈ wU := w_at 1868 (by decide +kernel) (by decide +kernel)
theorem hy_thrown : yX12_thrown.cls = RX12 ∧ yX12_thrown.cls ≠ "java/lang/invoke/MethodHandle" ∧ yX12_thrown.cls ≠ "java/lang/invoke/VarHandle" ∧ (parseMethodDescriptor yX12_thrown.desc).map (fun d => d.parameters.length) = some 0 := by decide +kernel
theorem wf_129 : Cond.fieldLink RX12 129 RX12 (TX12 45).2.1 (TX12 45).2.2.1 ∈ wU := w_at 1770 (by decide +kernel) (by decide +kernel)
theorem cu_in : Cond.code yX12_in cX12_in 3 (some .boolean) ∈ wU := w_at 1878 (by decide +kernel) (by decide +kernel)
theorem hy_in : yX12_in.cls = RX12 ∧ yX12_in.cls ≠ "java/lang/invoke/MethodHandle" ∧ yX12_in.cls ≠ "java/lang/invoke/VarHandle" ∧ (parseMethodDescriptor yX12_in.desc).map (fun d => d.parameters.length) = some 3 := by decide +kernel
theorem cu_goes : Cond.code yX12_goes cX12_goes 4 (some .boolean) ∈ wU := w_at 1882 (by decide +kernel) (by decide +kernel)
theorem hy_goes : yX12_goes.cls = RX12 ∧ yX12_goes.cls ≠ "java/lang/invoke/MethodHandle" ∧ yX12_goes.cls ≠ "java/lang/invoke/VarHandle" ∧ (parseMethodDescriptor yX12_goes.desc).map (fun d => d.parameters.length) = some 3 := by decide +kernel
theorem cu_tells : Cond.code yX12_tells cX12_tells 2 (some .int) ∈ wU := w_at 1924 (by decide +kernel) (by decide +kernel)
theorem hy_tells : yX12_tells.cls = RX12 ∧ yX12_tells.cls ≠ "java/lang/invoke/MethodHandle" ∧ yX12_tells.cls ≠ "java/lang/invoke/VarHandle" ∧ (parseMethodDescriptor yX12_tells.desc).map (fun d => d.parameters.length) = some 1 := by decide +kernel
theorem cu_isBar : Cond.code yX12_isBar cX12_isBar 2 (some .boolean) ∈ wU := w_at 1890 (by decide +kernel) (by decide +kernel)
theorem hy_isBar : yX12_isBar.cls = RX12 ∧ yX12_isBar.cls ≠ "java/lang/invoke/MethodHandle" ∧ yX12_isBar.cls ≠ "java/lang/invoke/VarHandle" ∧ (parseMethodDescriptor yX12_isBar.desc).map (fun d => d.parameters.length) = some 1 := by decide +kernel
theorem wf_132 : Cond.fieldLink RX12 132 RX12 (TX12 0).2.1 (TX12 0).2.2.1 ∈ wU := w_at 1725 (by decide +kernel) (by decide +kernel)
theorem w_i1876 : Cond.methodLink RX12 135 yX12_in ∈ wU := w_at 1876 (by decide +kernel) (by decide +kernel)
theorem w_i90 : Cond.initialized RX12 ∈ wU := w_at 90 (by decide +kernel) (by decide +kernel)
theorem w_i1877 : Cond.static yX12_in ∈ wU := w_at 1877 (by decide +kernel) (by decide +kernel)
theorem wl_135 : ∀ w ∈ ([.methodLink RX12 135 yX12_in, .static yX12_in, .initialized RX12] : List Cond), w ∈ wU := w_3 w_i1876 w_i1877 w_i90
theorem cu_isVoice : Cond.code yX12_isVoice cX12_isVoice 1 (some .boolean) ∈ wU := w_at 1951 (by decide +kernel) (by decide +kernel)
theorem hy_isVoice : yX12_isVoice.cls = RX12 ∧ yX12_isVoice.cls ≠ "java/lang/invoke/MethodHandle" ∧ yX12_isVoice.cls ≠ "java/lang/invoke/VarHandle" ∧ (parseMethodDescriptor yX12_isVoice.desc).map (fun d => d.parameters.length) = some 1 := by decide +kernel
theorem cu_at : Cond.code yX12_at cX12_at 2 (some .int) ∈ wU := w_at 1897 (by decide +kernel) (by decide +kernel)
theorem hy_at : yX12_at.cls = RX12 ∧ yX12_at.cls ≠ "java/lang/invoke/MethodHandle" ∧ yX12_at.cls ≠ "java/lang/invoke/VarHandle" ∧ (parseMethodDescriptor yX12_at.desc).map (fun d => d.parameters.length) = some 2 := by decide +kernel
theorem cu_place : Cond.code yX12_place cX12_place 3 (some .int) ∈ wU := w_at 1904 (by decide +kernel) (by decide +kernel)
theorem hy_place : yX12_place.cls = RX12 ∧ yX12_place.cls ≠ "java/lang/invoke/MethodHandle" ∧ yX12_place.cls ≠ "java/lang/invoke/VarHandle" ∧ (parseMethodDescriptor yX12_place.desc).map (fun d => d.parameters.length) = some 3 := by decide +kernel
theorem w_i1895 : Cond.methodLink RX12 139 yX12_at ∈ wU := w_at 1895 (by decide +kernel) (by decide +kernel)
theorem w_i1896 : Cond.static yX12_at ∈ wU := w_at 1896 (by decide +kernel) (by decide +kernel)
theorem wl_139 : ∀ w ∈ ([.methodLink RX12 139 yX12_at, .static yX12_at, .initialized RX12] : List Cond), w ∈ wU := w_3 w_i1895 w_i1896 w_i90
theorem cu_isEvent : Cond.code yX12_isEvent cX12_isEvent 4 (some .boolean) ∈ wU := w_at 1971 (by decide +kernel) (by decide +kernel)
theorem hy_isEvent : yX12_isEvent.cls = RX12 ∧ yX12_isEvent.cls ≠ "java/lang/invoke/MethodHandle" ∧ yX12_isEvent.cls ≠ "java/lang/invoke/VarHandle" ∧ (parseMethodDescriptor yX12_isEvent.desc).map (fun d => d.parameters.length) = some 3 := by decide +kernel
theorem w_i1887 : Cond.methodLink RX12 143 yX12_isBar ∈ wU := w_at 1887 (by decide +kernel) (by decide +kernel)
theorem w_i1889 : Cond.instanceMethod yX12_isBar ∈ wU := w_at 1889 (by decide +kernel) (by decide +kernel)
theorem w_i28 : Cond.selects RX12 yX12_isBar yX12_isBar ∈ wU := w_at 28 (by decide +kernel) (by decide +kernel)
theorem wl_143 : ∀ w ∈ ([.methodLink RX12 143 yX12_isBar, .instanceMethod yX12_isBar, .selects RX12 yX12_isBar yX12_isBar, .initialized RX12] : List Cond), w ∈ wU := w_4 w_i1887 w_i1889 w_i28 w_i90
theorem wf_25 : Cond.fieldLink RX12 25 RX12 (TX12 6).2.1 (TX12 6).2.2.1 ∈ wU := w_at 1731 (by decide +kernel) (by decide +kernel)
theorem cu_isMetre : Cond.code yX12_isMetre cX12_isMetre 2 (some .boolean) ∈ wU := w_at 1875 (by decide +kernel) (by decide +kernel)
theorem hy_isMetre : yX12_isMetre.cls = RX12 ∧ yX12_isMetre.cls ≠ "java/lang/invoke/MethodHandle" ∧ yX12_isMetre.cls ≠ "java/lang/invoke/VarHandle" ∧ (parseMethodDescriptor yX12_isMetre.desc).map (fun d => d.parameters.length) = some 2 := by decide +kernel
theorem cu_lengthOf : Cond.code yX12_lengthOf cX12_lengthOf 2 (some .int) ∈ wU := w_at 1912 (by decide +kernel) (by decide +kernel)
theorem hy_lengthOf : yX12_lengthOf.cls = RX12 ∧ yX12_lengthOf.cls ≠ "java/lang/invoke/MethodHandle" ∧ yX12_lengthOf.cls ≠ "java/lang/invoke/VarHandle" ∧ (parseMethodDescriptor yX12_lengthOf.desc).map (fun d => d.parameters.length) = some 1 := by decide +kernel
theorem wf_7 : Cond.fieldLink RX12 7 RX12 (TX12 1).2.1 (TX12 1).2.2.1 ∈ wU := w_at 1726 (by decide +kernel) (by decide +kernel)
theorem wf_13 : Cond.fieldLink RX12 13 RX12 (TX12 2).2.1 (TX12 2).2.2.1 ∈ wU := w_at 1727 (by decide +kernel) (by decide +kernel)
theorem cu_tempoOf : Cond.code yX12_tempoOf cX12_tempoOf 4 (some .int) ∈ wU := w_at 1936 (by decide +kernel) (by decide +kernel)
theorem hy_tempoOf : yX12_tempoOf.cls = RX12 ∧ yX12_tempoOf.cls ≠ "java/lang/invoke/MethodHandle" ∧ yX12_tempoOf.cls ≠ "java/lang/invoke/VarHandle" ∧ (parseMethodDescriptor yX12_tempoOf.desc).map (fun d => d.parameters.length) = some 1 := by decide +kernel
theorem wf_16 : Cond.fieldLink RX12 16 RX12 (TX12 3).2.1 (TX12 3).2.2.1 ∈ wU := w_at 1728 (by decide +kernel) (by decide +kernel)
theorem cu_lasts : Cond.code yX12_lasts cX12_lasts 3 (some .int) ∈ wU := w_at 1944 (by decide +kernel) (by decide +kernel)
theorem hy_lasts : yX12_lasts.cls = RX12 ∧ yX12_lasts.cls ≠ "java/lang/invoke/MethodHandle" ∧ yX12_lasts.cls ≠ "java/lang/invoke/VarHandle" ∧ (parseMethodDescriptor yX12_lasts.desc).map (fun d => d.parameters.length) = some 2 := by decide +kernel
theorem w_i1933 : Cond.methodLink RX12 147 yX12_tempoOf ∈ wU := w_at 1933 (by decide +kernel) (by decide +kernel)
theorem w_i1935 : Cond.instanceMethod yX12_tempoOf ∈ wU := w_at 1935 (by decide +kernel) (by decide +kernel)
theorem w_i34 : Cond.selects RX12 yX12_tempoOf yX12_tempoOf ∈ wU := w_at 34 (by decide +kernel) (by decide +kernel)
theorem wl_147 : ∀ w ∈ ([.methodLink RX12 147 yX12_tempoOf, .instanceMethod yX12_tempoOf, .selects RX12 yX12_tempoOf yX12_tempoOf, .initialized RX12] : List Cond), w ∈ wU := w_4 w_i1933 w_i1935 w_i34 w_i90
theorem cu_ticksOf : Cond.code yX12_ticksOf cX12_ticksOf 3 (some .int) ∈ wU := w_at 1908 (by decide +kernel) (by decide +kernel)
theorem hy_ticksOf : yX12_ticksOf.cls = RX12 ∧ yX12_ticksOf.cls ≠ "java/lang/invoke/MethodHandle" ∧ yX12_ticksOf.cls ≠ "java/lang/invoke/VarHandle" ∧ (parseMethodDescriptor yX12_ticksOf.desc).map (fun d => d.parameters.length) = some 1 := by decide +kernel
theorem wf_35 : Cond.fieldLink RX12 35 RX12 (TX12 9).2.1 (TX12 9).2.2.1 ∈ wU := w_at 1734 (by decide +kernel) (by decide +kernel)
theorem wf_38 : Cond.fieldLink RX12 38 RX12 (TX12 10).2.1 (TX12 10).2.2.1 ∈ wU := w_at 1735 (by decide +kernel) (by decide +kernel)
theorem cu_ticks : Cond.code yX12_ticks cX12_ticks 6 (some .int) ∈ wU := w_at 1901 (by decide +kernel) (by decide +kernel)
theorem hy_ticks : yX12_ticks.cls = RX12 ∧ yX12_ticks.cls ≠ "java/lang/invoke/MethodHandle" ∧ yX12_ticks.cls ≠ "java/lang/invoke/VarHandle" ∧ (parseMethodDescriptor yX12_ticks.desc).map (fun d => d.parameters.length) = some 3 := by decide +kernel
theorem w_i1902 : Cond.methodLink RX12 151 yX12_place ∈ wU := w_at 1902 (by decide +kernel) (by decide +kernel)
theorem w_i1903 : Cond.static yX12_place ∈ wU := w_at 1903 (by decide +kernel) (by decide +kernel)
theorem wl_151 : ∀ w ∈ ([.methodLink RX12 151 yX12_place, .static yX12_place, .initialized RX12] : List Cond), w ∈ wU := w_3 w_i1902 w_i1903 w_i90
theorem w_i1905 : Cond.methodLink RX12 155 yX12_ticksOf ∈ wU := w_at 1905 (by decide +kernel) (by decide +kernel)
theorem w_i1907 : Cond.instanceMethod yX12_ticksOf ∈ wU := w_at 1907 (by decide +kernel) (by decide +kernel)
theorem w_i31 : Cond.selects RX12 yX12_ticksOf yX12_ticksOf ∈ wU := w_at 31 (by decide +kernel) (by decide +kernel)
theorem wl_155 : ∀ w ∈ ([.methodLink RX12 155 yX12_ticksOf, .instanceMethod yX12_ticksOf, .selects RX12 yX12_ticksOf yX12_ticksOf, .initialized RX12] : List Cond), w ∈ wU := w_4 w_i1905 w_i1907 w_i31 w_i90
theorem cu_allTicks : Cond.code yX12_allTicks cX12_allTicks 3 (some .int) ∈ wU := w_at 1894 (by decide +kernel) (by decide +kernel)
theorem hy_allTicks : yX12_allTicks.cls = RX12 ∧ yX12_allTicks.cls ≠ "java/lang/invoke/MethodHandle" ∧ yX12_allTicks.cls ≠ "java/lang/invoke/VarHandle" ∧ (parseMethodDescriptor yX12_allTicks.desc).map (fun d => d.parameters.length) = some 2 := by decide +kernel
theorem w_i1898 : Cond.methodLink RX12 158 yX12_ticks ∈ wU := w_at 1898 (by decide +kernel) (by decide +kernel)
theorem w_i1900 : Cond.instanceMethod yX12_ticks ∈ wU := w_at 1900 (by decide +kernel) (by decide +kernel)
theorem w_i30 : Cond.selects RX12 yX12_ticks yX12_ticks ∈ wU := w_at 30 (by decide +kernel) (by decide +kernel)
theorem wl_158 : ∀ w ∈ ([.methodLink RX12 158 yX12_ticks, .instanceMethod yX12_ticks, .selects RX12 yX12_ticks yX12_ticks, .initialized RX12] : List Cond), w ∈ wU := w_4 w_i1898 w_i1900 w_i30 w_i90
theorem cu_addBar : Cond.code yX12_addBar cX12_addBar 3 (some .int) ∈ wU := w_at 1872 (by decide +kernel) (by decide +kernel)
theorem hy_addBar : yX12_addBar.cls = RX12 ∧ yX12_addBar.cls ≠ "java/lang/invoke/MethodHandle" ∧ yX12_addBar.cls ≠ "java/lang/invoke/VarHandle" ∧ (parseMethodDescriptor yX12_addBar.desc).map (fun d => d.parameters.length) = some 2 := by decide +kernel
theorem w_i1873 : Cond.methodLink RX12 161 yX12_isMetre ∈ wU := w_at 1873 (by decide +kernel) (by decide +kernel)
theorem w_i1874 : Cond.static yX12_isMetre ∈ wU := w_at 1874 (by decide +kernel) (by decide +kernel)
theorem wl_161 : ∀ w ∈ ([.methodLink RX12 161 yX12_isMetre, .static yX12_isMetre, .initialized RX12] : List Cond), w ∈ wU := w_3 w_i1873 w_i1874 w_i90
theorem w_i1879 : Cond.methodLink RX12 165 yX12_goes ∈ wU := w_at 1879 (by decide +kernel) (by decide +kernel)
theorem w_i1881 : Cond.instanceMethod yX12_goes ∈ wU := w_at 1881 (by decide +kernel) (by decide +kernel)
theorem w_i27 : Cond.selects RX12 yX12_goes yX12_goes ∈ wU := w_at 27 (by decide +kernel) (by decide +kernel)
theorem wl_165 : ∀ w ∈ ([.methodLink RX12 165 yX12_goes, .instanceMethod yX12_goes, .selects RX12 yX12_goes yX12_goes, .initialized RX12] : List Cond), w ∈ wU := w_4 w_i1879 w_i1881 w_i27 w_i90
theorem wf_19 : Cond.fieldLink RX12 19 RX12 (TX12 4).2.1 (TX12 4).2.2.1 ∈ wU := w_at 1729 (by decide +kernel) (by decide +kernel)
theorem cu_setMetre : Cond.code yX12_setMetre cX12_setMetre 8 (some .int) ∈ wU := w_at 1886 (by decide +kernel) (by decide +kernel)
theorem hy_setMetre : yX12_setMetre.cls = RX12 ∧ yX12_setMetre.cls ≠ "java/lang/invoke/MethodHandle" ∧ yX12_setMetre.cls ≠ "java/lang/invoke/VarHandle" ∧ (parseMethodDescriptor yX12_setMetre.desc).map (fun d => d.parameters.length) = some 3 := by decide +kernel
theorem w_i1909 : Cond.methodLink RX12 172 yX12_lengthOf ∈ wU := w_at 1909 (by decide +kernel) (by decide +kernel)
theorem w_i1911 : Cond.instanceMethod yX12_lengthOf ∈ wU := w_at 1911 (by decide +kernel) (by decide +kernel)
theorem w_i32 : Cond.selects RX12 yX12_lengthOf yX12_lengthOf ∈ wU := w_at 32 (by decide +kernel) (by decide +kernel)
theorem wl_172 : ∀ w ∈ ([.methodLink RX12 172 yX12_lengthOf, .instanceMethod yX12_lengthOf, .selects RX12 yX12_lengthOf yX12_lengthOf, .initialized RX12] : List Cond), w ∈ wU := w_4 w_i1909 w_i1911 w_i32 w_i90
theorem w_i1891 : Cond.methodLink RX12 169 yX12_allTicks ∈ wU := w_at 1891 (by decide +kernel) (by decide +kernel)
theorem w_i1893 : Cond.instanceMethod yX12_allTicks ∈ wU := w_at 1893 (by decide +kernel) (by decide +kernel)
theorem w_i29 : Cond.selects RX12 yX12_allTicks yX12_allTicks ∈ wU := w_at 29 (by decide +kernel) (by decide +kernel)
theorem wl_169 : ∀ w ∈ ([.methodLink RX12 169 yX12_allTicks, .instanceMethod yX12_allTicks, .selects RX12 yX12_allTicks yX12_allTicks, .initialized RX12] : List Cond), w ∈ wU := w_4 w_i1891 w_i1893 w_i29 w_i90
theorem cu_setTempo : Cond.code yX12_setTempo cX12_setTempo 4 (some .int) ∈ wU := w_at 1916 (by decide +kernel) (by decide +kernel)
theorem hy_setTempo : yX12_setTempo.cls = RX12 ∧ yX12_setTempo.cls ≠ "java/lang/invoke/MethodHandle" ∧ yX12_setTempo.cls ≠ "java/lang/invoke/VarHandle" ∧ (parseMethodDescriptor yX12_setTempo.desc).map (fun d => d.parameters.length) = some 2 := by decide +kernel
theorem cu_bars : Cond.code yX12_bars cX12_bars 1 (some .int) ∈ wU := w_at 1920 (by decide +kernel) (by decide +kernel)
theorem hy_bars : yX12_bars.cls = RX12 ∧ yX12_bars.cls ≠ "java/lang/invoke/MethodHandle" ∧ yX12_bars.cls ≠ "java/lang/invoke/VarHandle" ∧ (parseMethodDescriptor yX12_bars.desc).map (fun d => d.parameters.length) = some 0 := by decide +kernel
theorem w_i1921 : Cond.methodLink RX12 175 yX12_tells ∈ wU := w_at 1921 (by decide +kernel) (by decide +kernel)
theorem w_i1923 : Cond.instanceMethod yX12_tells ∈ wU := w_at 1923 (by decide +kernel) (by decide +kernel)
theorem w_i33 : Cond.selects RX12 yX12_tells yX12_tells ∈ wU := w_at 33 (by decide +kernel) (by decide +kernel)
theorem wl_175 : ∀ w ∈ ([.methodLink RX12 175 yX12_tells, .instanceMethod yX12_tells, .selects RX12 yX12_tells yX12_tells, .initialized RX12] : List Cond), w ∈ wU := w_4 w_i1921 w_i1923 w_i33 w_i90
theorem cu_length : Cond.code yX12_length cX12_length 2 (some .int) ∈ wU := w_at 1928 (by decide +kernel) (by decide +kernel)
theorem hy_length : yX12_length.cls = RX12 ∧ yX12_length.cls ≠ "java/lang/invoke/MethodHandle" ∧ yX12_length.cls ≠ "java/lang/invoke/VarHandle" ∧ (parseMethodDescriptor yX12_length.desc).map (fun d => d.parameters.length) = some 1 := by decide +kernel
theorem cu_tempo : Cond.code yX12_tempo cX12_tempo 2 (some .int) ∈ wU := w_at 1932 (by decide +kernel) (by decide +kernel)
theorem hy_tempo : yX12_tempo.cls = RX12 ∧ yX12_tempo.cls ≠ "java/lang/invoke/MethodHandle" ∧ yX12_tempo.cls ≠ "java/lang/invoke/VarHandle" ∧ (parseMethodDescriptor yX12_tempo.desc).map (fun d => d.parameters.length) = some 1 := by decide +kernel
theorem cu_time : Cond.code yX12_time cX12_time 2 (some .int) ∈ wU := w_at 1940 (by decide +kernel) (by decide +kernel)
theorem hy_time : yX12_time.cls = RX12 ∧ yX12_time.cls ≠ "java/lang/invoke/MethodHandle" ∧ yX12_time.cls ≠ "java/lang/invoke/VarHandle" ∧ (parseMethodDescriptor yX12_time.desc).map (fun d => d.parameters.length) = some 1 := by decide +kernel
theorem w_i1941 : Cond.methodLink RX12 178 yX12_lasts ∈ wU := w_at 1941 (by decide +kernel) (by decide +kernel)
theorem w_i1943 : Cond.instanceMethod yX12_lasts ∈ wU := w_at 1943 (by decide +kernel) (by decide +kernel)
theorem w_i35 : Cond.selects RX12 yX12_lasts yX12_lasts ∈ wU := w_at 35 (by decide +kernel) (by decide +kernel)
theorem wl_178 : ∀ w ∈ ([.methodLink RX12 178 yX12_lasts, .instanceMethod yX12_lasts, .selects RX12 yX12_lasts yX12_lasts, .initialized RX12] : List Cond), w ∈ wU := w_4 w_i1941 w_i1943 w_i35 w_i90
theorem cu_isWritten : Cond.code yX12_isWritten cX12_isWritten 4 (some .boolean) ∈ wU := w_at 1955 (by decide +kernel) (by decide +kernel)
theorem hy_isWritten : yX12_isWritten.cls = RX12 ∧ yX12_isWritten.cls ≠ "java/lang/invoke/MethodHandle" ∧ yX12_isWritten.cls ≠ "java/lang/invoke/VarHandle" ∧ (parseMethodDescriptor yX12_isWritten.desc).map (fun d => d.parameters.length) = some 3 := by decide +kernel
theorem cu_copies : Cond.code yX12_copies cX12_copies 3 none ∈ wU := w_at 1959 (by decide +kernel) (by decide +kernel)
theorem hy_copies : yX12_copies.cls = RX12 ∧ yX12_copies.cls ≠ "java/lang/invoke/MethodHandle" ∧ yX12_copies.cls ≠ "java/lang/invoke/VarHandle" ∧ (parseMethodDescriptor yX12_copies.desc).map (fun d => d.parameters.length) = some 2 := by decide +kernel
theorem wf_32 : Cond.fieldLink RX12 32 RX12 (TX12 8).2.1 (TX12 8).2.2.1 ∈ wU := w_at 1733 (by decide +kernel) (by decide +kernel)
theorem wf_41 : Cond.fieldLink RX12 41 RX12 (TX12 11).2.1 (TX12 11).2.2.1 ∈ wU := w_at 1736 (by decide +kernel) (by decide +kernel)
theorem wf_44 : Cond.fieldLink RX12 44 RX12 (TX12 12).2.1 (TX12 12).2.2.1 ∈ wU := w_at 1737 (by decide +kernel) (by decide +kernel)
theorem cu_moves : Cond.code yX12_moves cX12_moves 6 none ∈ wU := w_at 1963 (by decide +kernel) (by decide +kernel)
theorem hy_moves : yX12_moves.cls = RX12 ∧ yX12_moves.cls ≠ "java/lang/invoke/MethodHandle" ∧ yX12_moves.cls ≠ "java/lang/invoke/VarHandle" ∧ (parseMethodDescriptor yX12_moves.desc).map (fun d => d.parameters.length) = some 4 := by decide +kernel
theorem wf_181 : Cond.fieldLink RX12 181 RX12 (TX12 14).2.1 (TX12 14).2.2.1 ∈ wU := w_at 1739 (by decide +kernel) (by decide +kernel)
theorem wf_56 : Cond.fieldLink RX12 56 RX12 (TX12 17).2.1 (TX12 17).2.2.1 ∈ wU := w_at 1742 (by decide +kernel) (by decide +kernel)
theorem wf_50 : Cond.fieldLink RX12 50 RX12 (TX12 15).2.1 (TX12 15).2.2.1 ∈ wU := w_at 1740 (by decide +kernel) (by decide +kernel)
theorem wf_53 : Cond.fieldLink RX12 53 RX12 (TX12 16).2.1 (TX12 16).2.2.1 ∈ wU := w_at 1741 (by decide +kernel) (by decide +kernel)
theorem wf_62 : Cond.fieldLink RX12 62 RX12 (TX12 19).2.1 (TX12 19).2.2.1 ∈ wU := w_at 1744 (by decide +kernel) (by decide +kernel)
theorem wf_59 : Cond.fieldLink RX12 59 RX12 (TX12 18).2.1 (TX12 18).2.2.1 ∈ wU := w_at 1743 (by decide +kernel) (by decide +kernel)
theorem cu_insert : Cond.code yX12_insert cX12_insert 13 (some .int) ∈ wU := w_at 1948 (by decide +kernel) (by decide +kernel)
theorem hy_insert : yX12_insert.cls = RX12 ∧ yX12_insert.cls ≠ "java/lang/invoke/MethodHandle" ∧ yX12_insert.cls ≠ "java/lang/invoke/VarHandle" ∧ (parseMethodDescriptor yX12_insert.desc).map (fun d => d.parameters.length) = some 6 := by decide +kernel
theorem w_i1949 : Cond.methodLink RX12 184 yX12_isVoice ∈ wU := w_at 1949 (by decide +kernel) (by decide +kernel)
theorem w_i1950 : Cond.static yX12_isVoice ∈ wU := w_at 1950 (by decide +kernel) (by decide +kernel)
theorem wl_184 : ∀ w ∈ ([.methodLink RX12 184 yX12_isVoice, .static yX12_isVoice, .initialized RX12] : List Cond), w ∈ wU := w_3 w_i1949 w_i1950 w_i90
theorem w_i1960 : Cond.methodLink RX12 194 yX12_moves ∈ wU := w_at 1960 (by decide +kernel) (by decide +kernel)
theorem w_i1962 : Cond.instanceMethod yX12_moves ∈ wU := w_at 1962 (by decide +kernel) (by decide +kernel)
theorem w_i38 : Cond.selects RX12 yX12_moves yX12_moves ∈ wU := w_at 38 (by decide +kernel) (by decide +kernel)
theorem wl_194 : ∀ w ∈ ([.methodLink RX12 194 yX12_moves, .instanceMethod yX12_moves, .selects RX12 yX12_moves yX12_moves, .initialized RX12] : List Cond), w ∈ wU := w_4 w_i1960 w_i1962 w_i38 w_i90
theorem w_i1956 : Cond.methodLink RX12 190 yX12_copies ∈ wU := w_at 1956 (by decide +kernel) (by decide +kernel)
theorem w_i1958 : Cond.instanceMethod yX12_copies ∈ wU := w_at 1958 (by decide +kernel) (by decide +kernel)
theorem w_i37 : Cond.selects RX12 yX12_copies yX12_copies ∈ wU := w_at 37 (by decide +kernel) (by decide +kernel)
theorem wl_190 : ∀ w ∈ ([.methodLink RX12 190 yX12_copies, .instanceMethod yX12_copies, .selects RX12 yX12_copies yX12_copies, .initialized RX12] : List Cond), w ∈ wU := w_4 w_i1956 w_i1958 w_i37 w_i90
theorem wf_47 : Cond.fieldLink RX12 47 RX12 (TX12 13).2.1 (TX12 13).2.2.1 ∈ wU := w_at 1738 (by decide +kernel) (by decide +kernel)
theorem w_i1952 : Cond.methodLink RX12 187 yX12_isWritten ∈ wU := w_at 1952 (by decide +kernel) (by decide +kernel)
theorem w_i1954 : Cond.instanceMethod yX12_isWritten ∈ wU := w_at 1954 (by decide +kernel) (by decide +kernel)
theorem w_i36 : Cond.selects RX12 yX12_isWritten yX12_isWritten ∈ wU := w_at 36 (by decide +kernel) (by decide +kernel)
theorem wl_187 : ∀ w ∈ ([.methodLink RX12 187 yX12_isWritten, .instanceMethod yX12_isWritten, .selects RX12 yX12_isWritten yX12_isWritten, .initialized RX12] : List Cond), w ∈ wU := w_4 w_i1952 w_i1954 w_i36 w_i90
theorem cu_remove : Cond.code yX12_remove cX12_remove 8 (some .int) ∈ wU := w_at 1967 (by decide +kernel) (by decide +kernel)
theorem hy_remove : yX12_remove.cls = RX12 ∧ yX12_remove.cls ≠ "java/lang/invoke/MethodHandle" ∧ yX12_remove.cls ≠ "java/lang/invoke/VarHandle" ∧ (parseMethodDescriptor yX12_remove.desc).map (fun d => d.parameters.length) = some 3 := by decide +kernel
theorem w_i1968 : Cond.methodLink RX12 198 yX12_isEvent ∈ wU := w_at 1968 (by decide +kernel) (by decide +kernel)
theorem w_i1970 : Cond.instanceMethod yX12_isEvent ∈ wU := w_at 1970 (by decide +kernel) (by decide +kernel)
theorem w_i39 : Cond.selects RX12 yX12_isEvent yX12_isEvent ∈ wU := w_at 39 (by decide +kernel) (by decide +kernel)
theorem wl_198 : ∀ w ∈ ([.methodLink RX12 198 yX12_isEvent, .instanceMethod yX12_isEvent, .selects RX12 yX12_isEvent yX12_isEvent, .initialized RX12] : List Cond), w ∈ wU := w_4 w_i1968 w_i1970 w_i39 w_i90
theorem wf_65 : Cond.fieldLink RX12 65 RX12 (TX12 20).2.1 (TX12 20).2.2.1 ∈ wU := w_at 1745 (by decide +kernel) (by decide +kernel)
theorem cu_setPitch : Cond.code yX12_setPitch cX12_setPitch 9 (some .int) ∈ wU := w_at 1975 (by decide +kernel) (by decide +kernel)
theorem hy_setPitch : yX12_setPitch.cls = RX12 ∧ yX12_setPitch.cls ≠ "java/lang/invoke/MethodHandle" ∧ yX12_setPitch.cls ≠ "java/lang/invoke/VarHandle" ∧ (parseMethodDescriptor yX12_setPitch.desc).map (fun d => d.parameters.length) = some 4 := by decide +kernel
theorem cu_setTie : Cond.code yX12_setTie cX12_setTie 8 (some .boolean) ∈ wU := w_at 1979 (by decide +kernel) (by decide +kernel)
theorem hy_setTie : yX12_setTie.cls = RX12 ∧ yX12_setTie.cls ≠ "java/lang/invoke/MethodHandle" ∧ yX12_setTie.cls ≠ "java/lang/invoke/VarHandle" ∧ (parseMethodDescriptor yX12_setTie.desc).map (fun d => d.parameters.length) = some 4 := by decide +kernel
theorem cu_setMark : Cond.code yX12_setMark cX12_setMark 7 (some .int) ∈ wU := w_at 1983 (by decide +kernel) (by decide +kernel)
theorem hy_setMark : yX12_setMark.cls = RX12 ∧ yX12_setMark.cls ≠ "java/lang/invoke/MethodHandle" ∧ yX12_setMark.cls ≠ "java/lang/invoke/VarHandle" ∧ (parseMethodDescriptor yX12_setMark.desc).map (fun d => d.parameters.length) = some 4 := by decide +kernel
theorem cu_transpose : Cond.code yX12_transpose cX12_transpose 7 (some .int) ∈ wU := w_at 1987 (by decide +kernel) (by decide +kernel)
theorem hy_transpose : yX12_transpose.cls = RX12 ∧ yX12_transpose.cls ≠ "java/lang/invoke/MethodHandle" ∧ yX12_transpose.cls ≠ "java/lang/invoke/VarHandle" ∧ (parseMethodDescriptor yX12_transpose.desc).map (fun d => d.parameters.length) = some 2 := by decide +kernel
theorem cu_events : Cond.code yX12_events cX12_events 4 (some .int) ∈ wU := w_at 1991 (by decide +kernel) (by decide +kernel)
theorem hy_events : yX12_events.cls = RX12 ∧ yX12_events.cls ≠ "java/lang/invoke/MethodHandle" ∧ yX12_events.cls ≠ "java/lang/invoke/VarHandle" ∧ (parseMethodDescriptor yX12_events.desc).map (fun d => d.parameters.length) = some 2 := by decide +kernel
theorem cu_left : Cond.code yX12_left cX12_left 3 (some .int) ∈ wU := w_at 1995 (by decide +kernel) (by decide +kernel)
theorem hy_left : yX12_left.cls = RX12 ∧ yX12_left.cls ≠ "java/lang/invoke/MethodHandle" ∧ yX12_left.cls ≠ "java/lang/invoke/VarHandle" ∧ (parseMethodDescriptor yX12_left.desc).map (fun d => d.parameters.length) = some 2 := by decide +kernel
theorem cu_isRightIn : Cond.code yX12_isRightIn cX12_isRightIn 8 (some .boolean) ∈ wU := w_at 2003 (by decide +kernel) (by decide +kernel)
theorem hy_isRightIn : yX12_isRightIn.cls = RX12 ∧ yX12_isRightIn.cls ≠ "java/lang/invoke/MethodHandle" ∧ yX12_isRightIn.cls ≠ "java/lang/invoke/VarHandle" ∧ (parseMethodDescriptor yX12_isRightIn.desc).map (fun d => d.parameters.length) = some 2 := by decide +kernel
theorem cu_isRight : Cond.code yX12_isRight cX12_isRight 3 (some .boolean) ∈ wU := w_at 1999 (by decide +kernel) (by decide +kernel)
theorem hy_isRight : yX12_isRight.cls = RX12 ∧ yX12_isRight.cls ≠ "java/lang/invoke/MethodHandle" ∧ yX12_isRight.cls ≠ "java/lang/invoke/VarHandle" ∧ (parseMethodDescriptor yX12_isRight.desc).map (fun d => d.parameters.length) = some 2 := by decide +kernel
theorem w_i2000 : Cond.methodLink RX12 201 yX12_isRightIn ∈ wU := w_at 2000 (by decide +kernel) (by decide +kernel)
theorem w_i2002 : Cond.instanceMethod yX12_isRightIn ∈ wU := w_at 2002 (by decide +kernel) (by decide +kernel)
theorem w_i40 : Cond.selects RX12 yX12_isRightIn yX12_isRightIn ∈ wU := w_at 40 (by decide +kernel) (by decide +kernel)
theorem wl_201 : ∀ w ∈ ([.methodLink RX12 201 yX12_isRightIn, .instanceMethod yX12_isRightIn, .selects RX12 yX12_isRightIn yX12_isRightIn, .initialized RX12] : List Cond), w ∈ wU := w_4 w_i2000 w_i2002 w_i40 w_i90
theorem cu_written : Cond.code yX12_written cX12_written 6 (some .int) ∈ wU := w_at 2007 (by decide +kernel) (by decide +kernel)
theorem hy_written : yX12_written.cls = RX12 ∧ yX12_written.cls ≠ "java/lang/invoke/MethodHandle" ∧ yX12_written.cls ≠ "java/lang/invoke/VarHandle" ∧ (parseMethodDescriptor yX12_written.desc).map (fun d => d.parameters.length) = some 3 := by decide +kernel
theorem cu_addPhrase : Cond.code yX12_addPhrase cX12_addPhrase 9 (some .int) ∈ wU := w_at 2011 (by decide +kernel) (by decide +kernel)
theorem hy_addPhrase : yX12_addPhrase.cls = RX12 ∧ yX12_addPhrase.cls ≠ "java/lang/invoke/MethodHandle" ∧ yX12_addPhrase.cls ≠ "java/lang/invoke/VarHandle" ∧ (parseMethodDescriptor yX12_addPhrase.desc).map (fun d => d.parameters.length) = some 5 := by decide +kernel
theorem cu_dropPhrase : Cond.code yX12_dropPhrase cX12_dropPhrase 3 (some .boolean) ∈ wU := w_at 2015 (by decide +kernel) (by decide +kernel)
theorem hy_dropPhrase : yX12_dropPhrase.cls = RX12 ∧ yX12_dropPhrase.cls ≠ "java/lang/invoke/MethodHandle" ∧ yX12_dropPhrase.cls ≠ "java/lang/invoke/VarHandle" ∧ (parseMethodDescriptor yX12_dropPhrase.desc).map (fun d => d.parameters.length) = some 1 := by decide +kernel
theorem cu_phrases : Cond.code yX12_phrases cX12_phrases 3 (some .int) ∈ wU := w_at 2019 (by decide +kernel) (by decide +kernel)
theorem hy_phrases : yX12_phrases.cls = RX12 ∧ yX12_phrases.cls ≠ "java/lang/invoke/MethodHandle" ∧ yX12_phrases.cls ≠ "java/lang/invoke/VarHandle" ∧ (parseMethodDescriptor yX12_phrases.desc).map (fun d => d.parameters.length) = some 0 := by decide +kernel
theorem cu_allowTurn : Cond.code yX12_allowTurn cX12_allowTurn 5 (some .boolean) ∈ wU := w_at 2023 (by decide +kernel) (by decide +kernel)
theorem hy_allowTurn : yX12_allowTurn.cls = RX12 ∧ yX12_allowTurn.cls ≠ "java/lang/invoke/MethodHandle" ∧ yX12_allowTurn.cls ≠ "java/lang/invoke/VarHandle" ∧ (parseMethodDescriptor yX12_allowTurn.desc).map (fun d => d.parameters.length) = some 3 := by decide +kernel
theorem wf_28 : Cond.fieldLink RX12 28 RX12 (TX12 7).2.1 (TX12 7).2.2.1 ∈ wU := w_at 1732 (by decide +kernel) (by decide +kernel)
theorem cu_repeats : Cond.code yX12_repeats cX12_repeats 3 (some .int) ∈ wU := w_at 2031 (by decide +kernel) (by decide +kernel)
theorem hy_repeats : yX12_repeats.cls = RX12 ∧ yX12_repeats.cls ≠ "java/lang/invoke/MethodHandle" ∧ yX12_repeats.cls ≠ "java/lang/invoke/VarHandle" ∧ (parseMethodDescriptor yX12_repeats.desc).map (fun d => d.parameters.length) = some 0 := by decide +kernel
theorem cu_addRepeat : Cond.code yX12_addRepeat cX12_addRepeat 7 (some .int) ∈ wU := w_at 2027 (by decide +kernel) (by decide +kernel)
theorem hy_addRepeat : yX12_addRepeat.cls = RX12 ∧ yX12_addRepeat.cls ≠ "java/lang/invoke/MethodHandle" ∧ yX12_addRepeat.cls ≠ "java/lang/invoke/VarHandle" ∧ (parseMethodDescriptor yX12_addRepeat.desc).map (fun d => d.parameters.length) = some 3 := by decide +kernel
theorem wf_22 : Cond.fieldLink RX12 22 RX12 (TX12 5).2.1 (TX12 5).2.2.1 ∈ wU := w_at 1730 (by decide +kernel) (by decide +kernel)
theorem w_i2028 : Cond.methodLink RX12 204 yX12_repeats ∈ wU := w_at 2028 (by decide +kernel) (by decide +kernel)
theorem w_i2030 : Cond.instanceMethod yX12_repeats ∈ wU := w_at 2030 (by decide +kernel) (by decide +kernel)
theorem w_i41 : Cond.selects RX12 yX12_repeats yX12_repeats ∈ wU := w_at 41 (by decide +kernel) (by decide +kernel)
theorem wl_204 : ∀ w ∈ ([.methodLink RX12 204 yX12_repeats, .instanceMethod yX12_repeats, .selects RX12 yX12_repeats yX12_repeats, .initialized RX12] : List Cond), w ∈ wU := w_4 w_i2028 w_i2030 w_i41 w_i90
theorem cu_dropRepeat : Cond.code yX12_dropRepeat cX12_dropRepeat 4 (some .int) ∈ wU := w_at 2035 (by decide +kernel) (by decide +kernel)
theorem hy_dropRepeat : yX12_dropRepeat.cls = RX12 ∧ yX12_dropRepeat.cls ≠ "java/lang/invoke/MethodHandle" ∧ yX12_dropRepeat.cls ≠ "java/lang/invoke/VarHandle" ∧ (parseMethodDescriptor yX12_dropRepeat.desc).map (fun d => d.parameters.length) = some 1 := by decide +kernel
theorem cu_plays : Cond.code yX12_plays cX12_plays 4 none ∈ wU := w_at 2047 (by decide +kernel) (by decide +kernel)
theorem hy_plays : yX12_plays.cls = RX12 ∧ yX12_plays.cls ≠ "java/lang/invoke/MethodHandle" ∧ yX12_plays.cls ≠ "java/lang/invoke/VarHandle" ∧ (parseMethodDescriptor yX12_plays.desc).map (fun d => d.parameters.length) = some 2 := by decide +kernel
theorem wf_78 : Cond.fieldLink RX12 78 RX12 (TX12 25).2.1 (TX12 25).2.2.1 ∈ wU := w_at 1750 (by decide +kernel) (by decide +kernel)
theorem wf_208 : Cond.fieldLink RX12 208 RX12 (TX12 24).2.1 (TX12 24).2.2.1 ∈ wU := w_at 1749 (by decide +kernel) (by decide +kernel)
theorem wf_81 : Cond.fieldLink RX12 81 RX12 (TX12 26).2.1 (TX12 26).2.2.1 ∈ wU := w_at 1751 (by decide +kernel) (by decide +kernel)
theorem cu_laysPlaces : Cond.code yX12_laysPlaces cX12_laysPlaces 3 none ∈ wU := w_at 2043 (by decide +kernel) (by decide +kernel)
theorem hy_laysPlaces : yX12_laysPlaces.cls = RX12 ∧ yX12_laysPlaces.cls ≠ "java/lang/invoke/MethodHandle" ∧ yX12_laysPlaces.cls ≠ "java/lang/invoke/VarHandle" ∧ (parseMethodDescriptor yX12_laysPlaces.desc).map (fun d => d.parameters.length) = some 0 := by decide +kernel
theorem w_i2044 : Cond.methodLink RX12 211 yX12_plays ∈ wU := w_at 2044 (by decide +kernel) (by decide +kernel)
theorem w_i2046 : Cond.instanceMethod yX12_plays ∈ wU := w_at 2046 (by decide +kernel) (by decide +kernel)
theorem w_i43 : Cond.selects RX12 yX12_plays yX12_plays ∈ wU := w_at 43 (by decide +kernel) (by decide +kernel)
theorem wl_211 : ∀ w ∈ ([.methodLink RX12 211 yX12_plays, .instanceMethod yX12_plays, .selects RX12 yX12_plays yX12_plays, .initialized RX12] : List Cond), w ∈ wU := w_4 w_i2044 w_i2046 w_i43 w_i90
theorem cu_places : Cond.code yX12_places cX12_places 1 (some .int) ∈ wU := w_at 2039 (by decide +kernel) (by decide +kernel)
theorem hy_places : yX12_places.cls = RX12 ∧ yX12_places.cls ≠ "java/lang/invoke/MethodHandle" ∧ yX12_places.cls ≠ "java/lang/invoke/VarHandle" ∧ (parseMethodDescriptor yX12_places.desc).map (fun d => d.parameters.length) = some 0 := by decide +kernel
theorem w_i2040 : Cond.methodLink RX12 214 yX12_laysPlaces ∈ wU := w_at 2040 (by decide +kernel) (by decide +kernel)
theorem w_i2042 : Cond.instanceMethod yX12_laysPlaces ∈ wU := w_at 2042 (by decide +kernel) (by decide +kernel)
theorem w_i42 : Cond.selects RX12 yX12_laysPlaces yX12_laysPlaces ∈ wU := w_at 42 (by decide +kernel) (by decide +kernel)
theorem wl_214 : ∀ w ∈ ([.methodLink RX12 214 yX12_laysPlaces, .instanceMethod yX12_laysPlaces, .selects RX12 yX12_laysPlaces yX12_laysPlaces, .initialized RX12] : List Cond), w ∈ wU := w_4 w_i2040 w_i2042 w_i42 w_i90
theorem cu_isPlace : Cond.code yX12_isPlace cX12_isPlace 2 (some .boolean) ∈ wU := w_at 2055 (by decide +kernel) (by decide +kernel)
theorem hy_isPlace : yX12_isPlace.cls = RX12 ∧ yX12_isPlace.cls ≠ "java/lang/invoke/MethodHandle" ∧ yX12_isPlace.cls ≠ "java/lang/invoke/VarHandle" ∧ (parseMethodDescriptor yX12_isPlace.desc).map (fun d => d.parameters.length) = some 1 := by decide +kernel
theorem cu_barAt : Cond.code yX12_barAt cX12_barAt 2 (some .int) ∈ wU := w_at 2051 (by decide +kernel) (by decide +kernel)
theorem hy_barAt : yX12_barAt.cls = RX12 ∧ yX12_barAt.cls ≠ "java/lang/invoke/MethodHandle" ∧ yX12_barAt.cls ≠ "java/lang/invoke/VarHandle" ∧ (parseMethodDescriptor yX12_barAt.desc).map (fun d => d.parameters.length) = some 1 := by decide +kernel
theorem w_i2052 : Cond.methodLink RX12 217 yX12_isPlace ∈ wU := w_at 2052 (by decide +kernel) (by decide +kernel)
theorem w_i2054 : Cond.instanceMethod yX12_isPlace ∈ wU := w_at 2054 (by decide +kernel) (by decide +kernel)
theorem w_i44 : Cond.selects RX12 yX12_isPlace yX12_isPlace ∈ wU := w_at 44 (by decide +kernel) (by decide +kernel)
theorem wl_217 : ∀ w ∈ ([.methodLink RX12 217 yX12_isPlace, .instanceMethod yX12_isPlace, .selects RX12 yX12_isPlace yX12_isPlace, .initialized RX12] : List Cond), w ∈ wU := w_4 w_i2052 w_i2054 w_i44 w_i90
theorem cu_startOf : Cond.code yX12_startOf cX12_startOf 2 (some .int) ∈ wU := w_at 2059 (by decide +kernel) (by decide +kernel)
theorem hy_startOf : yX12_startOf.cls = RX12 ∧ yX12_startOf.cls ≠ "java/lang/invoke/MethodHandle" ∧ yX12_startOf.cls ≠ "java/lang/invoke/VarHandle" ∧ (parseMethodDescriptor yX12_startOf.desc).map (fun d => d.parameters.length) = some 1 := by decide +kernel
theorem cu_playingTime : Cond.code yX12_playingTime cX12_playingTime 1 (some .int) ∈ wU := w_at 2063 (by decide +kernel) (by decide +kernel)
theorem hy_playingTime : yX12_playingTime.cls = RX12 ∧ yX12_playingTime.cls ≠ "java/lang/invoke/MethodHandle" ∧ yX12_playingTime.cls ≠ "java/lang/invoke/VarHandle" ∧ (parseMethodDescriptor yX12_playingTime.desc).map (fun d => d.parameters.length) = some 0 := by decide +kernel
theorem cu_timeByEvents : Cond.code yX12_timeByEvents cX12_timeByEvents 5 (some .int) ∈ wU := w_at 2067 (by decide +kernel) (by decide +kernel)
theorem hy_timeByEvents : yX12_timeByEvents.cls = RX12 ∧ yX12_timeByEvents.cls ≠ "java/lang/invoke/MethodHandle" ∧ yX12_timeByEvents.cls ≠ "java/lang/invoke/VarHandle" ∧ (parseMethodDescriptor yX12_timeByEvents.desc).map (fun d => d.parameters.length) = some 1 := by decide +kernel
theorem cu_holds : Cond.code yX12_holds cX12_holds 3 (some .boolean) ∈ wU := w_at 2087 (by decide +kernel) (by decide +kernel)
theorem hy_holds : yX12_holds.cls = RX12 ∧ yX12_holds.cls ≠ "java/lang/invoke/MethodHandle" ∧ yX12_holds.cls ≠ "java/lang/invoke/VarHandle" ∧ (parseMethodDescriptor yX12_holds.desc).map (fun d => d.parameters.length) = some 2 := by decide +kernel
theorem cu_goesOn : Cond.code yX12_goesOn cX12_goesOn 6 (some .boolean) ∈ wU := w_at 2083 (by decide +kernel) (by decide +kernel)
theorem hy_goesOn : yX12_goesOn.cls = RX12 ∧ yX12_goesOn.cls ≠ "java/lang/invoke/MethodHandle" ∧ yX12_goesOn.cls ≠ "java/lang/invoke/VarHandle" ∧ (parseMethodDescriptor yX12_goesOn.desc).map (fun d => d.parameters.length) = some 3 := by decide +kernel
theorem w_i2084 : Cond.methodLink RX12 220 yX12_holds ∈ wU := w_at 2084 (by decide +kernel) (by decide +kernel)
theorem w_i2086 : Cond.instanceMethod yX12_holds ∈ wU := w_at 2086 (by decide +kernel) (by decide +kernel)
theorem w_i48 : Cond.selects RX12 yX12_holds yX12_holds ∈ wU := w_at 48 (by decide +kernel) (by decide +kernel)
theorem wl_220 : ∀ w ∈ ([.methodLink RX12 220 yX12_holds, .instanceMethod yX12_holds, .selects RX12 yX12_holds yX12_holds, .initialized RX12] : List Cond), w ∈ wU := w_4 w_i2084 w_i2086 w_i48 w_i90
theorem cu_over : Cond.code yX12_over cX12_over 4 (some .int) ∈ wU := w_at 2091 (by decide +kernel) (by decide +kernel)
theorem hy_over : yX12_over.cls = RX12 ∧ yX12_over.cls ≠ "java/lang/invoke/MethodHandle" ∧ yX12_over.cls ≠ "java/lang/invoke/VarHandle" ∧ (parseMethodDescriptor yX12_over.desc).map (fun d => d.parameters.length) = some 3 := by decide +kernel
theorem cu_laysSounds : Cond.code yX12_laysSounds cX12_laysSounds 6 none ∈ wU := w_at 2079 (by decide +kernel) (by decide +kernel)
theorem hy_laysSounds : yX12_laysSounds.cls = RX12 ∧ yX12_laysSounds.cls ≠ "java/lang/invoke/MethodHandle" ∧ yX12_laysSounds.cls ≠ "java/lang/invoke/VarHandle" ∧ (parseMethodDescriptor yX12_laysSounds.desc).map (fun d => d.parameters.length) = some 1 := by decide +kernel
theorem wf_84 : Cond.fieldLink RX12 84 RX12 (TX12 27).2.1 (TX12 27).2.2.1 ∈ wU := w_at 1752 (by decide +kernel) (by decide +kernel)
theorem wf_87 : Cond.fieldLink RX12 87 RX12 (TX12 28).2.1 (TX12 28).2.2.1 ∈ wU := w_at 1753 (by decide +kernel) (by decide +kernel)
theorem w_i2080 : Cond.methodLink RX12 223 yX12_goesOn ∈ wU := w_at 2080 (by decide +kernel) (by decide +kernel)
theorem w_i2082 : Cond.instanceMethod yX12_goesOn ∈ wU := w_at 2082 (by decide +kernel) (by decide +kernel)
theorem w_i47 : Cond.selects RX12 yX12_goesOn yX12_goesOn ∈ wU := w_at 47 (by decide +kernel) (by decide +kernel)
theorem wl_223 : ∀ w ∈ ([.methodLink RX12 223 yX12_goesOn, .instanceMethod yX12_goesOn, .selects RX12 yX12_goesOn yX12_goesOn, .initialized RX12] : List Cond), w ∈ wU := w_4 w_i2080 w_i2082 w_i47 w_i90
theorem wf_90 : Cond.fieldLink RX12 90 RX12 (TX12 29).2.1 (TX12 29).2.2.1 ∈ wU := w_at 1754 (by decide +kernel) (by decide +kernel)
theorem w_i2088 : Cond.methodLink RX12 226 yX12_over ∈ wU := w_at 2088 (by decide +kernel) (by decide +kernel)
theorem w_i2090 : Cond.instanceMethod yX12_over ∈ wU := w_at 2090 (by decide +kernel) (by decide +kernel)
theorem w_i49 : Cond.selects RX12 yX12_over yX12_over ∈ wU := w_at 49 (by decide +kernel) (by decide +kernel)
theorem wl_226 : ∀ w ∈ ([.methodLink RX12 226 yX12_over, .instanceMethod yX12_over, .selects RX12 yX12_over yX12_over, .initialized RX12] : List Cond), w ∈ wU := w_4 w_i2088 w_i2090 w_i49 w_i90
theorem wf_93 : Cond.fieldLink RX12 93 RX12 (TX12 30).2.1 (TX12 30).2.2.1 ∈ wU := w_at 1755 (by decide +kernel) (by decide +kernel)
theorem cu_laysAllSounds : Cond.code yX12_laysAllSounds cX12_laysAllSounds 3 (some .int) ∈ wU := w_at 2075 (by decide +kernel) (by decide +kernel)
theorem hy_laysAllSounds : yX12_laysAllSounds.cls = RX12 ∧ yX12_laysAllSounds.cls ≠ "java/lang/invoke/MethodHandle" ∧ yX12_laysAllSounds.cls ≠ "java/lang/invoke/VarHandle" ∧ (parseMethodDescriptor yX12_laysAllSounds.desc).map (fun d => d.parameters.length) = some 0 := by decide +kernel
theorem w_i2076 : Cond.methodLink RX12 229 yX12_laysSounds ∈ wU := w_at 2076 (by decide +kernel) (by decide +kernel)
theorem w_i2078 : Cond.instanceMethod yX12_laysSounds ∈ wU := w_at 2078 (by decide +kernel) (by decide +kernel)
theorem w_i46 : Cond.selects RX12 yX12_laysSounds yX12_laysSounds ∈ wU := w_at 46 (by decide +kernel) (by decide +kernel)
theorem wl_229 : ∀ w ∈ ([.methodLink RX12 229 yX12_laysSounds, .instanceMethod yX12_laysSounds, .selects RX12 yX12_laysSounds yX12_laysSounds, .initialized RX12] : List Cond), w ∈ wU := w_4 w_i2076 w_i2078 w_i46 w_i90
theorem cu_soundAt : Cond.code yX12_soundAt cX12_soundAt 7 (some .int) ∈ wU := w_at 2103 (by decide +kernel) (by decide +kernel)
theorem hy_soundAt : yX12_soundAt.cls = RX12 ∧ yX12_soundAt.cls ≠ "java/lang/invoke/MethodHandle" ∧ yX12_soundAt.cls ≠ "java/lang/invoke/VarHandle" ∧ (parseMethodDescriptor yX12_soundAt.desc).map (fun d => d.parameters.length) = some 1 := by decide +kernel
theorem wf_96 : Cond.fieldLink RX12 96 RX12 (TX12 31).2.1 (TX12 31).2.2.1 ∈ wU := w_at 1756 (by decide +kernel) (by decide +kernel)
theorem cu_isSound : Cond.code yX12_isSound cX12_isSound 3 (some .boolean) ∈ wU := w_at 2099 (by decide +kernel) (by decide +kernel)
theorem hy_isSound : yX12_isSound.cls = RX12 ∧ yX12_isSound.cls ≠ "java/lang/invoke/MethodHandle" ∧ yX12_isSound.cls ≠ "java/lang/invoke/VarHandle" ∧ (parseMethodDescriptor yX12_isSound.desc).map (fun d => d.parameters.length) = some 1 := by decide +kernel
theorem w_i2072 : Cond.methodLink RX12 233 yX12_laysAllSounds ∈ wU := w_at 2072 (by decide +kernel) (by decide +kernel)
theorem w_i2074 : Cond.instanceMethod yX12_laysAllSounds ∈ wU := w_at 2074 (by decide +kernel) (by decide +kernel)
theorem w_i45 : Cond.selects RX12 yX12_laysAllSounds yX12_laysAllSounds ∈ wU := w_at 45 (by decide +kernel) (by decide +kernel)
theorem wl_233 : ∀ w ∈ ([.methodLink RX12 233 yX12_laysAllSounds, .instanceMethod yX12_laysAllSounds, .selects RX12 yX12_laysAllSounds yX12_laysAllSounds, .initialized RX12] : List Cond), w ∈ wU := w_4 w_i2072 w_i2074 w_i45 w_i90
theorem cu_sounds : Cond.code yX12_sounds cX12_sounds 1 (some .int) ∈ wU := w_at 2071 (by decide +kernel) (by decide +kernel)
theorem hy_sounds : yX12_sounds.cls = RX12 ∧ yX12_sounds.cls ≠ "java/lang/invoke/MethodHandle" ∧ yX12_sounds.cls ≠ "java/lang/invoke/VarHandle" ∧ (parseMethodDescriptor yX12_sounds.desc).map (fun d => d.parameters.length) = some 0 := by decide +kernel
theorem cu_soundVoice : Cond.code yX12_soundVoice cX12_soundVoice 2 (some .int) ∈ wU := w_at 2095 (by decide +kernel) (by decide +kernel)
theorem hy_soundVoice : yX12_soundVoice.cls = RX12 ∧ yX12_soundVoice.cls ≠ "java/lang/invoke/MethodHandle" ∧ yX12_soundVoice.cls ≠ "java/lang/invoke/VarHandle" ∧ (parseMethodDescriptor yX12_soundVoice.desc).map (fun d => d.parameters.length) = some 1 := by decide +kernel
theorem w_i2096 : Cond.methodLink RX12 236 yX12_isSound ∈ wU := w_at 2096 (by decide +kernel) (by decide +kernel)
theorem w_i2098 : Cond.instanceMethod yX12_isSound ∈ wU := w_at 2098 (by decide +kernel) (by decide +kernel)
theorem w_i50 : Cond.selects RX12 yX12_isSound yX12_isSound ∈ wU := w_at 50 (by decide +kernel) (by decide +kernel)
theorem wl_236 : ∀ w ∈ ([.methodLink RX12 236 yX12_isSound, .instanceMethod yX12_isSound, .selects RX12 yX12_isSound yX12_isSound, .initialized RX12] : List Cond), w ∈ wU := w_4 w_i2096 w_i2098 w_i50 w_i90
theorem w_i2100 : Cond.methodLink RX12 239 yX12_soundAt ∈ wU := w_at 2100 (by decide +kernel) (by decide +kernel)
theorem w_i2102 : Cond.instanceMethod yX12_soundAt ∈ wU := w_at 2102 (by decide +kernel) (by decide +kernel)
theorem w_i51 : Cond.selects RX12 yX12_soundAt yX12_soundAt ∈ wU := w_at 51 (by decide +kernel) (by decide +kernel)
theorem wl_239 : ∀ w ∈ ([.methodLink RX12 239 yX12_soundAt, .instanceMethod yX12_soundAt, .selects RX12 yX12_soundAt yX12_soundAt, .initialized RX12] : List Cond), w ∈ wU := w_4 w_i2100 w_i2102 w_i51 w_i90
theorem cu_soundStart : Cond.code yX12_soundStart cX12_soundStart 2 (some .int) ∈ wU := w_at 2107 (by decide +kernel) (by decide +kernel)
theorem hy_soundStart : yX12_soundStart.cls = RX12 ∧ yX12_soundStart.cls ≠ "java/lang/invoke/MethodHandle" ∧ yX12_soundStart.cls ≠ "java/lang/invoke/VarHandle" ∧ (parseMethodDescriptor yX12_soundStart.desc).map (fun d => d.parameters.length) = some 1 := by decide +kernel
theorem cu_soundTime : Cond.code yX12_soundTime cX12_soundTime 2 (some .int) ∈ wU := w_at 2111 (by decide +kernel) (by decide +kernel)
theorem hy_soundTime : yX12_soundTime.cls = RX12 ∧ yX12_soundTime.cls ≠ "java/lang/invoke/MethodHandle" ∧ yX12_soundTime.cls ≠ "java/lang/invoke/VarHandle" ∧ (parseMethodDescriptor yX12_soundTime.desc).map (fun d => d.parameters.length) = some 1 := by decide +kernel
theorem cu_eventOf : Cond.code yX12_eventOf cX12_eventOf 2 (some .int) ∈ wU := w_at 2119 (by decide +kernel) (by decide +kernel)
theorem hy_eventOf : yX12_eventOf.cls = RX12 ∧ yX12_eventOf.cls ≠ "java/lang/invoke/MethodHandle" ∧ yX12_eventOf.cls ≠ "java/lang/invoke/VarHandle" ∧ (parseMethodDescriptor yX12_eventOf.desc).map (fun d => d.parameters.length) = some 1 := by decide +kernel
theorem cu_soundPitch : Cond.code yX12_soundPitch cX12_soundPitch 2 (some .int) ∈ wU := w_at 2115 (by decide +kernel) (by decide +kernel)
theorem hy_soundPitch : yX12_soundPitch.cls = RX12 ∧ yX12_soundPitch.cls ≠ "java/lang/invoke/MethodHandle" ∧ yX12_soundPitch.cls ≠ "java/lang/invoke/VarHandle" ∧ (parseMethodDescriptor yX12_soundPitch.desc).map (fun d => d.parameters.length) = some 1 := by decide +kernel
theorem w_i2116 : Cond.methodLink RX12 242 yX12_eventOf ∈ wU := w_at 2116 (by decide +kernel) (by decide +kernel)
theorem w_i2118 : Cond.instanceMethod yX12_eventOf ∈ wU := w_at 2118 (by decide +kernel) (by decide +kernel)
theorem w_i52 : Cond.selects RX12 yX12_eventOf yX12_eventOf ∈ wU := w_at 52 (by decide +kernel) (by decide +kernel)
theorem wl_242 : ∀ w ∈ ([.methodLink RX12 242 yX12_eventOf, .instanceMethod yX12_eventOf, .selects RX12 yX12_eventOf yX12_eventOf, .initialized RX12] : List Cond), w ∈ wU := w_4 w_i2116 w_i2118 w_i52 w_i90
theorem cu_loudness : Cond.code yX12_loudness cX12_loudness 7 (some .int) ∈ wU := w_at 2123 (by decide +kernel) (by decide +kernel)
theorem hy_loudness : yX12_loudness.cls = RX12 ∧ yX12_loudness.cls ≠ "java/lang/invoke/MethodHandle" ∧ yX12_loudness.cls ≠ "java/lang/invoke/VarHandle" ∧ (parseMethodDescriptor yX12_loudness.desc).map (fun d => d.parameters.length) = some 1 := by decide +kernel
theorem cu_setPaper : Cond.code yX12_setPaper cX12_setPaper 4 none ∈ wU := w_at 2127 (by decide +kernel) (by decide +kernel)
theorem hy_setPaper : yX12_setPaper.cls = RX12 ∧ yX12_setPaper.cls ≠ "java/lang/invoke/MethodHandle" ∧ yX12_setPaper.cls ≠ "java/lang/invoke/VarHandle" ∧ (parseMethodDescriptor yX12_setPaper.desc).map (fun d => d.parameters.length) = some 3 := by decide +kernel
theorem wf_68 : Cond.fieldLink RX12 68 RX12 (TX12 21).2.1 (TX12 21).2.2.1 ∈ wU := w_at 1746 (by decide +kernel) (by decide +kernel)
theorem wf_72 : Cond.fieldLink RX12 72 RX12 (TX12 22).2.1 (TX12 22).2.2.1 ∈ wU := w_at 1747 (by decide +kernel) (by decide +kernel)
theorem wf_75 : Cond.fieldLink RX12 75 RX12 (TX12 23).2.1 (TX12 23).2.2.1 ∈ wU := w_at 1748 (by decide +kernel) (by decide +kernel)
theorem cu_canDraw : Cond.code yX12_canDraw cX12_canDraw 4 (some .boolean) ∈ wU := w_at 2139 (by decide +kernel) (by decide +kernel)
theorem hy_canDraw : yX12_canDraw.cls = RX12 ∧ yX12_canDraw.cls ≠ "java/lang/invoke/MethodHandle" ∧ yX12_canDraw.cls ≠ "java/lang/invoke/VarHandle" ∧ (parseMethodDescriptor yX12_canDraw.desc).map (fun d => d.parameters.length) = some 1 := by decide +kernel
theorem cu_isNewMetre : Cond.code yX12_isNewMetre cX12_isNewMetre 2 (some .boolean) ∈ wU := w_at 2155 (by decide +kernel) (by decide +kernel)
theorem hy_isNewMetre : yX12_isNewMetre.cls = RX12 ∧ yX12_isNewMetre.cls ≠ "java/lang/invoke/MethodHandle" ∧ yX12_isNewMetre.cls ≠ "java/lang/invoke/VarHandle" ∧ (parseMethodDescriptor yX12_isNewMetre.desc).map (fun d => d.parameters.length) = some 1 := by decide +kernel
theorem cu_isEdge : Cond.code yX12_isEdge cX12_isEdge 6 (some .boolean) ∈ wU := w_at 2159 (by decide +kernel) (by decide +kernel)
theorem hy_isEdge : yX12_isEdge.cls = RX12 ∧ yX12_isEdge.cls ≠ "java/lang/invoke/MethodHandle" ∧ yX12_isEdge.cls ≠ "java/lang/invoke/VarHandle" ∧ (parseMethodDescriptor yX12_isEdge.desc).map (fun d => d.parameters.length) = some 2 := by decide +kernel
theorem cu_parts : Cond.code yX12_parts cX12_parts 2 (some .boolean) ∈ wU := w_at 2151 (by decide +kernel) (by decide +kernel)
theorem hy_parts : yX12_parts.cls = RX12 ∧ yX12_parts.cls ≠ "java/lang/invoke/MethodHandle" ∧ yX12_parts.cls ≠ "java/lang/invoke/VarHandle" ∧ (parseMethodDescriptor yX12_parts.desc).map (fun d => d.parameters.length) = some 1 := by decide +kernel
theorem w_i2152 : Cond.methodLink RX12 245 yX12_isNewMetre ∈ wU := w_at 2152 (by decide +kernel) (by decide +kernel)
theorem w_i2154 : Cond.instanceMethod yX12_isNewMetre ∈ wU := w_at 2154 (by decide +kernel) (by decide +kernel)
theorem w_i58 : Cond.selects RX12 yX12_isNewMetre yX12_isNewMetre ∈ wU := w_at 58 (by decide +kernel) (by decide +kernel)
theorem wl_245 : ∀ w ∈ ([.methodLink RX12 245 yX12_isNewMetre, .instanceMethod yX12_isNewMetre, .selects RX12 yX12_isNewMetre yX12_isNewMetre, .initialized RX12] : List Cond), w ∈ wU := w_4 w_i2152 w_i2154 w_i58 w_i90
theorem w_i2156 : Cond.methodLink RX12 248 yX12_isEdge ∈ wU := w_at 2156 (by decide +kernel) (by decide +kernel)
theorem w_i2158 : Cond.instanceMethod yX12_isEdge ∈ wU := w_at 2158 (by decide +kernel) (by decide +kernel)
theorem w_i59 : Cond.selects RX12 yX12_isEdge yX12_isEdge ∈ wU := w_at 59 (by decide +kernel) (by decide +kernel)
theorem wl_248 : ∀ w ∈ ([.methodLink RX12 248 yX12_isEdge, .instanceMethod yX12_isEdge, .selects RX12 yX12_isEdge yX12_isEdge, .initialized RX12] : List Cond), w ∈ wU := w_4 w_i2156 w_i2158 w_i59 w_i90
theorem cu_cueOf : Cond.code yX12_cueOf cX12_cueOf 5 (some .int) ∈ wU := w_at 2163 (by decide +kernel) (by decide +kernel)
theorem hy_cueOf : yX12_cueOf.cls = RX12 ∧ yX12_cueOf.cls ≠ "java/lang/invoke/MethodHandle" ∧ yX12_cueOf.cls ≠ "java/lang/invoke/VarHandle" ∧ (parseMethodDescriptor yX12_cueOf.desc).map (fun d => d.parameters.length) = some 2 := by decide +kernel
theorem cu_signs : Cond.code yX12_signs cX12_signs 2 (some .int) ∈ wU := w_at 2179 (by decide +kernel) (by decide +kernel)
theorem hy_signs : yX12_signs.cls = RX12 ∧ yX12_signs.cls ≠ "java/lang/invoke/MethodHandle" ∧ yX12_signs.cls ≠ "java/lang/invoke/VarHandle" ∧ (parseMethodDescriptor yX12_signs.desc).map (fun d => d.parameters.length) = some 1 := by decide +kernel
theorem cu_barWidth : Cond.code yX12_barWidth cX12_barWidth 7 (some .int) ∈ wU := w_at 2171 (by decide +kernel) (by decide +kernel)
theorem hy_barWidth : yX12_barWidth.cls = RX12 ∧ yX12_barWidth.cls ≠ "java/lang/invoke/MethodHandle" ∧ yX12_barWidth.cls ≠ "java/lang/invoke/VarHandle" ∧ (parseMethodDescriptor yX12_barWidth.desc).map (fun d => d.parameters.length) = some 2 := by decide +kernel
theorem cu_cueWidth : Cond.code yX12_cueWidth cX12_cueWidth 5 (some .int) ∈ wU := w_at 2175 (by decide +kernel) (by decide +kernel)
theorem hy_cueWidth : yX12_cueWidth.cls = RX12 ∧ yX12_cueWidth.cls ≠ "java/lang/invoke/MethodHandle" ∧ yX12_cueWidth.cls ≠ "java/lang/invoke/VarHandle" ∧ (parseMethodDescriptor yX12_cueWidth.desc).map (fun d => d.parameters.length) = some 2 := by decide +kernel
theorem cu_addsItem : Cond.code yX12_addsItem cX12_addsItem 8 none ∈ wU := w_at 2167 (by decide +kernel) (by decide +kernel)
theorem hy_addsItem : yX12_addsItem.cls = RX12 ∧ yX12_addsItem.cls ≠ "java/lang/invoke/MethodHandle" ∧ yX12_addsItem.cls ≠ "java/lang/invoke/VarHandle" ∧ (parseMethodDescriptor yX12_addsItem.desc).map (fun d => d.parameters.length) = some 5 := by decide +kernel
theorem wf_99 : Cond.fieldLink RX12 99 RX12 (TX12 33).2.1 (TX12 33).2.2.1 ∈ wU := w_at 1758 (by decide +kernel) (by decide +kernel)
theorem wf_261 : Cond.fieldLink RX12 261 RX12 (TX12 32).2.1 (TX12 32).2.2.1 ∈ wU := w_at 1757 (by decide +kernel) (by decide +kernel)
theorem wf_102 : Cond.fieldLink RX12 102 RX12 (TX12 34).2.1 (TX12 34).2.2.1 ∈ wU := w_at 1759 (by decide +kernel) (by decide +kernel)
theorem wf_105 : Cond.fieldLink RX12 105 RX12 (TX12 35).2.1 (TX12 35).2.2.1 ∈ wU := w_at 1760 (by decide +kernel) (by decide +kernel)
theorem wf_108 : Cond.fieldLink RX12 108 RX12 (TX12 36).2.1 (TX12 36).2.2.1 ∈ wU := w_at 1761 (by decide +kernel) (by decide +kernel)
theorem wf_111 : Cond.fieldLink RX12 111 RX12 (TX12 37).2.1 (TX12 37).2.2.1 ∈ wU := w_at 1762 (by decide +kernel) (by decide +kernel)
theorem w_i2176 : Cond.methodLink RX12 258 yX12_signs ∈ wU := w_at 2176 (by decide +kernel) (by decide +kernel)
theorem w_i2178 : Cond.instanceMethod yX12_signs ∈ wU := w_at 2178 (by decide +kernel) (by decide +kernel)
theorem w_i64 : Cond.selects RX12 yX12_signs yX12_signs ∈ wU := w_at 64 (by decide +kernel) (by decide +kernel)
theorem wl_258 : ∀ w ∈ ([.methodLink RX12 258 yX12_signs, .instanceMethod yX12_signs, .selects RX12 yX12_signs yX12_signs, .initialized RX12] : List Cond), w ∈ wU := w_4 w_i2176 w_i2178 w_i64 w_i90
theorem w_i2168 : Cond.methodLink RX12 252 yX12_barWidth ∈ wU := w_at 2168 (by decide +kernel) (by decide +kernel)
theorem w_i2170 : Cond.instanceMethod yX12_barWidth ∈ wU := w_at 2170 (by decide +kernel) (by decide +kernel)
theorem w_i62 : Cond.selects RX12 yX12_barWidth yX12_barWidth ∈ wU := w_at 62 (by decide +kernel) (by decide +kernel)
theorem wl_252 : ∀ w ∈ ([.methodLink RX12 252 yX12_barWidth, .instanceMethod yX12_barWidth, .selects RX12 yX12_barWidth yX12_barWidth, .initialized RX12] : List Cond), w ∈ wU := w_4 w_i2168 w_i2170 w_i62 w_i90
theorem w_i2172 : Cond.methodLink RX12 255 yX12_cueWidth ∈ wU := w_at 2172 (by decide +kernel) (by decide +kernel)
theorem w_i2174 : Cond.instanceMethod yX12_cueWidth ∈ wU := w_at 2174 (by decide +kernel) (by decide +kernel)
theorem w_i63 : Cond.selects RX12 yX12_cueWidth yX12_cueWidth ∈ wU := w_at 63 (by decide +kernel) (by decide +kernel)
theorem wl_255 : ∀ w ∈ ([.methodLink RX12 255 yX12_cueWidth, .instanceMethod yX12_cueWidth, .selects RX12 yX12_cueWidth yX12_cueWidth, .initialized RX12] : List Cond), w ∈ wU := w_4 w_i2172 w_i2174 w_i63 w_i90
theorem cu_isEmpty : Cond.code yX12_isEmpty cX12_isEmpty 3 (some .boolean) ∈ wU := w_at 2147 (by decide +kernel) (by decide +kernel)
theorem hy_isEmpty : yX12_isEmpty.cls = RX12 ∧ yX12_isEmpty.cls ≠ "java/lang/invoke/MethodHandle" ∧ yX12_isEmpty.cls ≠ "java/lang/invoke/VarHandle" ∧ (parseMethodDescriptor yX12_isEmpty.desc).map (fun d => d.parameters.length) = some 2 := by decide +kernel
theorem cu_draws : Cond.code yX12_draws cX12_draws 6 none ∈ wU := w_at 2143 (by decide +kernel) (by decide +kernel)
theorem hy_draws : yX12_draws.cls = RX12 ∧ yX12_draws.cls ≠ "java/lang/invoke/MethodHandle" ∧ yX12_draws.cls ≠ "java/lang/invoke/VarHandle" ∧ (parseMethodDescriptor yX12_draws.desc).map (fun d => d.parameters.length) = some 1 := by decide +kernel
theorem w_i2144 : Cond.methodLink RX12 264 yX12_isEmpty ∈ wU := w_at 2144 (by decide +kernel) (by decide +kernel)
theorem w_i2146 : Cond.instanceMethod yX12_isEmpty ∈ wU := w_at 2146 (by decide +kernel) (by decide +kernel)
theorem w_i56 : Cond.selects RX12 yX12_isEmpty yX12_isEmpty ∈ wU := w_at 56 (by decide +kernel) (by decide +kernel)
theorem wl_264 : ∀ w ∈ ([.methodLink RX12 264 yX12_isEmpty, .instanceMethod yX12_isEmpty, .selects RX12 yX12_isEmpty yX12_isEmpty, .initialized RX12] : List Cond), w ∈ wU := w_4 w_i2144 w_i2146 w_i56 w_i90
theorem w_i2164 : Cond.methodLink RX12 273 yX12_addsItem ∈ wU := w_at 2164 (by decide +kernel) (by decide +kernel)
theorem w_i2166 : Cond.instanceMethod yX12_addsItem ∈ wU := w_at 2166 (by decide +kernel) (by decide +kernel)
theorem w_i61 : Cond.selects RX12 yX12_addsItem yX12_addsItem ∈ wU := w_at 61 (by decide +kernel) (by decide +kernel)
theorem wl_273 : ∀ w ∈ ([.methodLink RX12 273 yX12_addsItem, .instanceMethod yX12_addsItem, .selects RX12 yX12_addsItem yX12_addsItem, .initialized RX12] : List Cond), w ∈ wU := w_4 w_i2164 w_i2166 w_i61 w_i90
theorem w_i2160 : Cond.methodLink RX12 270 yX12_cueOf ∈ wU := w_at 2160 (by decide +kernel) (by decide +kernel)
theorem w_i2162 : Cond.instanceMethod yX12_cueOf ∈ wU := w_at 2162 (by decide +kernel) (by decide +kernel)
theorem w_i60 : Cond.selects RX12 yX12_cueOf yX12_cueOf ∈ wU := w_at 60 (by decide +kernel) (by decide +kernel)
theorem wl_270 : ∀ w ∈ ([.methodLink RX12 270 yX12_cueOf, .instanceMethod yX12_cueOf, .selects RX12 yX12_cueOf yX12_cueOf, .initialized RX12] : List Cond), w ∈ wU := w_4 w_i2160 w_i2162 w_i60 w_i90
theorem w_i2148 : Cond.methodLink RX12 267 yX12_parts ∈ wU := w_at 2148 (by decide +kernel) (by decide +kernel)
theorem w_i2150 : Cond.instanceMethod yX12_parts ∈ wU := w_at 2150 (by decide +kernel) (by decide +kernel)
theorem w_i57 : Cond.selects RX12 yX12_parts yX12_parts ∈ wU := w_at 57 (by decide +kernel) (by decide +kernel)
theorem wl_267 : ∀ w ∈ ([.methodLink RX12 267 yX12_parts, .instanceMethod yX12_parts, .selects RX12 yX12_parts yX12_parts, .initialized RX12] : List Cond), w ∈ wU := w_4 w_i2148 w_i2150 w_i57 w_i90
theorem cu_isDrawn : Cond.code yX12_isDrawn cX12_isDrawn 3 (some .boolean) ∈ wU := w_at 2135 (by decide +kernel) (by decide +kernel)
theorem hy_isDrawn : yX12_isDrawn.cls = RX12 ∧ yX12_isDrawn.cls ≠ "java/lang/invoke/MethodHandle" ∧ yX12_isDrawn.cls ≠ "java/lang/invoke/VarHandle" ∧ (parseMethodDescriptor yX12_isDrawn.desc).map (fun d => d.parameters.length) = some 1 := by decide +kernel
theorem w_i2140 : Cond.methodLink RX12 280 yX12_draws ∈ wU := w_at 2140 (by decide +kernel) (by decide +kernel)
theorem w_i2142 : Cond.instanceMethod yX12_draws ∈ wU := w_at 2142 (by decide +kernel) (by decide +kernel)
theorem w_i55 : Cond.selects RX12 yX12_draws yX12_draws ∈ wU := w_at 55 (by decide +kernel) (by decide +kernel)
theorem wl_280 : ∀ w ∈ ([.methodLink RX12 280 yX12_draws, .instanceMethod yX12_draws, .selects RX12 yX12_draws yX12_draws, .initialized RX12] : List Cond), w ∈ wU := w_4 w_i2140 w_i2142 w_i55 w_i90
theorem w_i2136 : Cond.methodLink RX12 277 yX12_canDraw ∈ wU := w_at 2136 (by decide +kernel) (by decide +kernel)
theorem w_i2138 : Cond.instanceMethod yX12_canDraw ∈ wU := w_at 2138 (by decide +kernel) (by decide +kernel)
theorem w_i54 : Cond.selects RX12 yX12_canDraw yX12_canDraw ∈ wU := w_at 54 (by decide +kernel) (by decide +kernel)
theorem wl_277 : ∀ w ∈ ([.methodLink RX12 277 yX12_canDraw, .instanceMethod yX12_canDraw, .selects RX12 yX12_canDraw yX12_canDraw, .initialized RX12] : List Cond), w ∈ wU := w_4 w_i2136 w_i2138 w_i54 w_i90
theorem cu_isItem : Cond.code yX12_isItem cX12_isItem 4 (some .boolean) ∈ wU := w_at 2187 (by decide +kernel) (by decide +kernel)
theorem hy_isItem : yX12_isItem.cls = RX12 ∧ yX12_isItem.cls ≠ "java/lang/invoke/MethodHandle" ∧ yX12_isItem.cls ≠ "java/lang/invoke/VarHandle" ∧ (parseMethodDescriptor yX12_isItem.desc).map (fun d => d.parameters.length) = some 2 := by decide +kernel
theorem w_i2132 : Cond.methodLink RX12 283 yX12_isDrawn ∈ wU := w_at 2132 (by decide +kernel) (by decide +kernel)
theorem w_i2134 : Cond.instanceMethod yX12_isDrawn ∈ wU := w_at 2134 (by decide +kernel) (by decide +kernel)
theorem w_i53 : Cond.selects RX12 yX12_isDrawn yX12_isDrawn ∈ wU := w_at 53 (by decide +kernel) (by decide +kernel)
theorem wl_283 : ∀ w ∈ ([.methodLink RX12 283 yX12_isDrawn, .instanceMethod yX12_isDrawn, .selects RX12 yX12_isDrawn yX12_isDrawn, .initialized RX12] : List Cond), w ∈ wU := w_4 w_i2132 w_i2134 w_i53 w_i90
theorem cu_items : Cond.code yX12_items cX12_items 3 (some .int) ∈ wU := w_at 2131 (by decide +kernel) (by decide +kernel)
theorem hy_items : yX12_items.cls = RX12 ∧ yX12_items.cls ≠ "java/lang/invoke/MethodHandle" ∧ yX12_items.cls ≠ "java/lang/invoke/VarHandle" ∧ (parseMethodDescriptor yX12_items.desc).map (fun d => d.parameters.length) = some 1 := by decide +kernel
theorem cu_itemKind : Cond.code yX12_itemKind cX12_itemKind 3 (some .int) ∈ wU := w_at 2183 (by decide +kernel) (by decide +kernel)
theorem hy_itemKind : yX12_itemKind.cls = RX12 ∧ yX12_itemKind.cls ≠ "java/lang/invoke/MethodHandle" ∧ yX12_itemKind.cls ≠ "java/lang/invoke/VarHandle" ∧ (parseMethodDescriptor yX12_itemKind.desc).map (fun d => d.parameters.length) = some 2 := by decide +kernel
theorem w_i2184 : Cond.methodLink RX12 286 yX12_isItem ∈ wU := w_at 2184 (by decide +kernel) (by decide +kernel)
theorem w_i2186 : Cond.instanceMethod yX12_isItem ∈ wU := w_at 2186 (by decide +kernel) (by decide +kernel)
theorem w_i65 : Cond.selects RX12 yX12_isItem yX12_isItem ∈ wU := w_at 65 (by decide +kernel) (by decide +kernel)
theorem wl_286 : ∀ w ∈ ([.methodLink RX12 286 yX12_isItem, .instanceMethod yX12_isItem, .selects RX12 yX12_isItem yX12_isItem, .initialized RX12] : List Cond), w ∈ wU := w_4 w_i2184 w_i2186 w_i65 w_i90
theorem cu_itemBar : Cond.code yX12_itemBar cX12_itemBar 3 (some .int) ∈ wU := w_at 2191 (by decide +kernel) (by decide +kernel)
theorem hy_itemBar : yX12_itemBar.cls = RX12 ∧ yX12_itemBar.cls ≠ "java/lang/invoke/MethodHandle" ∧ yX12_itemBar.cls ≠ "java/lang/invoke/VarHandle" ∧ (parseMethodDescriptor yX12_itemBar.desc).map (fun d => d.parameters.length) = some 2 := by decide +kernel
theorem cu_itemBars : Cond.code yX12_itemBars cX12_itemBars 3 (some .int) ∈ wU := w_at 2195 (by decide +kernel) (by decide +kernel)
theorem hy_itemBars : yX12_itemBars.cls = RX12 ∧ yX12_itemBars.cls ≠ "java/lang/invoke/MethodHandle" ∧ yX12_itemBars.cls ≠ "java/lang/invoke/VarHandle" ∧ (parseMethodDescriptor yX12_itemBars.desc).map (fun d => d.parameters.length) = some 2 := by decide +kernel
theorem cu_cue : Cond.code yX12_cue cX12_cue 3 (some .int) ∈ wU := w_at 2199 (by decide +kernel) (by decide +kernel)
theorem hy_cue : yX12_cue.cls = RX12 ∧ yX12_cue.cls ≠ "java/lang/invoke/MethodHandle" ∧ yX12_cue.cls ≠ "java/lang/invoke/VarHandle" ∧ (parseMethodDescriptor yX12_cue.desc).map (fun d => d.parameters.length) = some 2 := by decide +kernel
theorem cu_itemWidth : Cond.code yX12_itemWidth cX12_itemWidth 3 (some .int) ∈ wU := w_at 2203 (by decide +kernel) (by decide +kernel)
theorem hy_itemWidth : yX12_itemWidth.cls = RX12 ∧ yX12_itemWidth.cls ≠ "java/lang/invoke/MethodHandle" ∧ yX12_itemWidth.cls ≠ "java/lang/invoke/VarHandle" ∧ (parseMethodDescriptor yX12_itemWidth.desc).map (fun d => d.parameters.length) = some 2 := by decide +kernel
theorem cu_badnessOf : Cond.code yX12_badnessOf cX12_badnessOf 4 (some .int) ∈ wU := w_at 2224 (by decide +kernel) (by decide +kernel)
theorem hy_badnessOf : yX12_badnessOf.cls = RX12 ∧ yX12_badnessOf.cls ≠ "java/lang/invoke/MethodHandle" ∧ yX12_badnessOf.cls ≠ "java/lang/invoke/VarHandle" ∧ (parseMethodDescriptor yX12_badnessOf.desc).map (fun d => d.parameters.length) = some 2 := by decide +kernel
theorem w_i2225 : Cond.constant RX12 289 1000000 ∈ wU := w_at 2225 (by decide +kernel) (by decide +kernel)
theorem cu_badnessTo : Cond.code yX12_badnessTo cX12_badnessTo 5 (some .int) ∈ wU := w_at 2220 (by decide +kernel) (by decide +kernel)
theorem hy_badnessTo : yX12_badnessTo.cls = RX12 ∧ yX12_badnessTo.cls ≠ "java/lang/invoke/MethodHandle" ∧ yX12_badnessTo.cls ≠ "java/lang/invoke/VarHandle" ∧ (parseMethodDescriptor yX12_badnessTo.desc).map (fun d => d.parameters.length) = some 2 := by decide +kernel
theorem w_i2221 : Cond.methodLink RX12 291 yX12_badnessOf ∈ wU := w_at 2221 (by decide +kernel) (by decide +kernel)
theorem w_i2223 : Cond.instanceMethod yX12_badnessOf ∈ wU := w_at 2223 (by decide +kernel) (by decide +kernel)
theorem w_i69 : Cond.selects RX12 yX12_badnessOf yX12_badnessOf ∈ wU := w_at 69 (by decide +kernel) (by decide +kernel)
theorem wl_291 : ∀ w ∈ ([.methodLink RX12 291 yX12_badnessOf, .instanceMethod yX12_badnessOf, .selects RX12 yX12_badnessOf yX12_badnessOf, .initialized RX12] : List Cond), w ∈ wU := w_4 w_i2221 w_i2223 w_i69 w_i90
theorem wf_117 : Cond.fieldLink RX12 117 RX12 (TX12 40).2.1 (TX12 40).2.2.1 ∈ wU := w_at 1765 (by decide +kernel) (by decide +kernel)
theorem w_i2216 : Cond.constant RX12 290 100000000 ∈ wU := w_at 2216 (by decide +kernel) (by decide +kernel)
theorem cu_breaksLines : Cond.code yX12_breaksLines cX12_breaksLines 4 none ∈ wU := w_at 2215 (by decide +kernel) (by decide +kernel)
theorem hy_breaksLines : yX12_breaksLines.cls = RX12 ∧ yX12_breaksLines.cls ≠ "java/lang/invoke/MethodHandle" ∧ yX12_breaksLines.cls ≠ "java/lang/invoke/VarHandle" ∧ (parseMethodDescriptor yX12_breaksLines.desc).map (fun d => d.parameters.length) = some 0 := by decide +kernel
theorem wf_298 : Cond.fieldLink RX12 298 RX12 (TX12 38).2.1 (TX12 38).2.2.1 ∈ wU := w_at 1763 (by decide +kernel) (by decide +kernel)
theorem wf_114 : Cond.fieldLink RX12 114 RX12 (TX12 39).2.1 (TX12 39).2.2.1 ∈ wU := w_at 1764 (by decide +kernel) (by decide +kernel)
theorem w_i2217 : Cond.methodLink RX12 295 yX12_badnessTo ∈ wU := w_at 2217 (by decide +kernel) (by decide +kernel)
theorem w_i2219 : Cond.instanceMethod yX12_badnessTo ∈ wU := w_at 2219 (by decide +kernel) (by decide +kernel)
theorem w_i68 : Cond.selects RX12 yX12_badnessTo yX12_badnessTo ∈ wU := w_at 68 (by decide +kernel) (by decide +kernel)
theorem wl_295 : ∀ w ∈ ([.methodLink RX12 295 yX12_badnessTo, .instanceMethod yX12_badnessTo, .selects RX12 yX12_badnessTo yX12_badnessTo, .initialized RX12] : List Cond), w ∈ wU := w_4 w_i2217 w_i2219 w_i68 w_i90
theorem cu_isBroken : Cond.code yX12_isBroken cX12_isBroken 3 (some .boolean) ∈ wU := w_at 2211 (by decide +kernel) (by decide +kernel)
theorem hy_isBroken : yX12_isBroken.cls = RX12 ∧ yX12_isBroken.cls ≠ "java/lang/invoke/MethodHandle" ∧ yX12_isBroken.cls ≠ "java/lang/invoke/VarHandle" ∧ (parseMethodDescriptor yX12_isBroken.desc).map (fun d => d.parameters.length) = some 1 := by decide +kernel
theorem w_i2212 : Cond.methodLink RX12 301 yX12_breaksLines ∈ wU := w_at 2212 (by decide +kernel) (by decide +kernel)
theorem w_i2214 : Cond.instanceMethod yX12_breaksLines ∈ wU := w_at 2214 (by decide +kernel) (by decide +kernel)
theorem w_i67 : Cond.selects RX12 yX12_breaksLines yX12_breaksLines ∈ wU := w_at 67 (by decide +kernel) (by decide +kernel)
theorem wl_301 : ∀ w ∈ ([.methodLink RX12 301 yX12_breaksLines, .instanceMethod yX12_breaksLines, .selects RX12 yX12_breaksLines yX12_breaksLines, .initialized RX12] : List Cond), w ∈ wU := w_4 w_i2212 w_i2214 w_i67 w_i90
theorem cu_lines : Cond.code yX12_lines cX12_lines 3 (some .int) ∈ wU := w_at 2207 (by decide +kernel) (by decide +kernel)
theorem hy_lines : yX12_lines.cls = RX12 ∧ yX12_lines.cls ≠ "java/lang/invoke/MethodHandle" ∧ yX12_lines.cls ≠ "java/lang/invoke/VarHandle" ∧ (parseMethodDescriptor yX12_lines.desc).map (fun d => d.parameters.length) = some 1 := by decide +kernel
theorem w_i2208 : Cond.methodLink RX12 304 yX12_isBroken ∈ wU := w_at 2208 (by decide +kernel) (by decide +kernel)
theorem w_i2210 : Cond.instanceMethod yX12_isBroken ∈ wU := w_at 2210 (by decide +kernel) (by decide +kernel)
theorem w_i66 : Cond.selects RX12 yX12_isBroken yX12_isBroken ∈ wU := w_at 66 (by decide +kernel) (by decide +kernel)
theorem wl_304 : ∀ w ∈ ([.methodLink RX12 304 yX12_isBroken, .instanceMethod yX12_isBroken, .selects RX12 yX12_isBroken yX12_isBroken, .initialized RX12] : List Cond), w ∈ wU := w_4 w_i2208 w_i2210 w_i66 w_i90
theorem cu_firstItem : Cond.code yX12_firstItem cX12_firstItem 4 (some .int) ∈ wU := w_at 2229 (by decide +kernel) (by decide +kernel)
theorem hy_firstItem : yX12_firstItem.cls = RX12 ∧ yX12_firstItem.cls ≠ "java/lang/invoke/MethodHandle" ∧ yX12_firstItem.cls ≠ "java/lang/invoke/VarHandle" ∧ (parseMethodDescriptor yX12_firstItem.desc).map (fun d => d.parameters.length) = some 2 := by decide +kernel
theorem cu_badness : Cond.code yX12_badness cX12_badness 3 (some .int) ∈ wU := w_at 2233 (by decide +kernel) (by decide +kernel)
theorem hy_badness : yX12_badness.cls = RX12 ∧ yX12_badness.cls ≠ "java/lang/invoke/MethodHandle" ∧ yX12_badness.cls ≠ "java/lang/invoke/VarHandle" ∧ (parseMethodDescriptor yX12_badness.desc).map (fun d => d.parameters.length) = some 1 := by decide +kernel
theorem cu_barAhead : Cond.code yX12_barAhead cX12_barAhead 3 (some .int) ∈ wU := w_at 2245 (by decide +kernel) (by decide +kernel)
theorem hy_barAhead : yX12_barAhead.cls = RX12 ∧ yX12_barAhead.cls ≠ "java/lang/invoke/MethodHandle" ∧ yX12_barAhead.cls ≠ "java/lang/invoke/VarHandle" ∧ (parseMethodDescriptor yX12_barAhead.desc).map (fun d => d.parameters.length) = some 1 := by decide +kernel
theorem cu_timed : Cond.code yX12_timed cX12_timed 3 (some .int) ∈ wU := w_at 2253 (by decide +kernel) (by decide +kernel)
theorem hy_timed : yX12_timed.cls = RX12 ∧ yX12_timed.cls ≠ "java/lang/invoke/MethodHandle" ∧ yX12_timed.cls ≠ "java/lang/invoke/VarHandle" ∧ (parseMethodDescriptor yX12_timed.desc).map (fun d => d.parameters.length) = some 1 := by decide +kernel
theorem cu_restAt : Cond.code yX12_restAt cX12_restAt 7 (some .int) ∈ wU := w_at 2249 (by decide +kernel) (by decide +kernel)
theorem hy_restAt : yX12_restAt.cls = RX12 ∧ yX12_restAt.cls ≠ "java/lang/invoke/MethodHandle" ∧ yX12_restAt.cls ≠ "java/lang/invoke/VarHandle" ∧ (parseMethodDescriptor yX12_restAt.desc).map (fun d => d.parameters.length) = some 2 := by decide +kernel
theorem w_i2250 : Cond.methodLink RX12 307 yX12_timed ∈ wU := w_at 2250 (by decide +kernel) (by decide +kernel)
theorem w_i2252 : Cond.instanceMethod yX12_timed ∈ wU := w_at 2252 (by decide +kernel) (by decide +kernel)
theorem w_i73 : Cond.selects RX12 yX12_timed yX12_timed ∈ wU := w_at 73 (by decide +kernel) (by decide +kernel)
theorem wl_307 : ∀ w ∈ ([.methodLink RX12 307 yX12_timed, .instanceMethod yX12_timed, .selects RX12 yX12_timed yX12_timed, .initialized RX12] : List Cond), w ∈ wU := w_4 w_i2250 w_i2252 w_i73 w_i90
theorem cu_isInPhrase : Cond.code yX12_isInPhrase cX12_isInPhrase 5 (some .boolean) ∈ wU := w_at 2257 (by decide +kernel) (by decide +kernel)
theorem hy_isInPhrase : yX12_isInPhrase.cls = RX12 ∧ yX12_isInPhrase.cls ≠ "java/lang/invoke/MethodHandle" ∧ yX12_isInPhrase.cls ≠ "java/lang/invoke/VarHandle" ∧ (parseMethodDescriptor yX12_isInPhrase.desc).map (fun d => d.parameters.length) = some 2 := by decide +kernel
theorem cu_bestOf : Cond.code yX12_bestOf cX12_bestOf 4 (some .int) ∈ wU := w_at 2274 (by decide +kernel) (by decide +kernel)
theorem hy_bestOf : yX12_bestOf.cls = RX12 ∧ yX12_bestOf.cls ≠ "java/lang/invoke/MethodHandle" ∧ yX12_bestOf.cls ≠ "java/lang/invoke/VarHandle" ∧ (parseMethodDescriptor yX12_bestOf.desc).map (fun d => d.parameters.length) = some 3 := by decide +kernel
theorem wf_123 : Cond.fieldLink RX12 123 RX12 (TX12 43).2.1 (TX12 43).2.2.1 ∈ wU := w_at 1768 (by decide +kernel) (by decide +kernel)
theorem cu_withLines : Cond.code yX12_withLines cX12_withLines 6 (some .int) ∈ wU := w_at 2279 (by decide +kernel) (by decide +kernel)
theorem hy_withLines : yX12_withLines.cls = RX12 ∧ yX12_withLines.cls ≠ "java/lang/invoke/MethodHandle" ∧ yX12_withLines.cls ≠ "java/lang/invoke/VarHandle" ∧ (parseMethodDescriptor yX12_withLines.desc).map (fun d => d.parameters.length) = some 3 := by decide +kernel
theorem wf_126 : Cond.fieldLink RX12 126 RX12 (TX12 44).2.1 (TX12 44).2.2.1 ∈ wU := w_at 1769 (by decide +kernel) (by decide +kernel)
theorem w_i2271 : Cond.methodLink RX12 310 yX12_bestOf ∈ wU := w_at 2271 (by decide +kernel) (by decide +kernel)
theorem w_i2273 : Cond.instanceMethod yX12_bestOf ∈ wU := w_at 2273 (by decide +kernel) (by decide +kernel)
theorem w_i78 : Cond.selects RX12 yX12_bestOf yX12_bestOf ∈ wU := w_at 78 (by decide +kernel) (by decide +kernel)
theorem wl_310 : ∀ w ∈ ([.methodLink RX12 310 yX12_bestOf, .instanceMethod yX12_bestOf, .selects RX12 yX12_bestOf yX12_bestOf, .initialized RX12] : List Cond), w ∈ wU := w_4 w_i2271 w_i2273 w_i78 w_i90
theorem cu_withBlank : Cond.code yX12_withBlank cX12_withBlank 3 (some .int) ∈ wU := w_at 2270 (by decide +kernel) (by decide +kernel)
theorem hy_withBlank : yX12_withBlank.cls = RX12 ∧ yX12_withBlank.cls ≠ "java/lang/invoke/MethodHandle" ∧ yX12_withBlank.cls ≠ "java/lang/invoke/VarHandle" ∧ (parseMethodDescriptor yX12_withBlank.desc).map (fun d => d.parameters.length) = some 2 := by decide +kernel
theorem cu_weighsPages : Cond.code yX12_weighsPages cX12_weighsPages 7 none ∈ wU := w_at 2266 (by decide +kernel) (by decide +kernel)
theorem hy_weighsPages : yX12_weighsPages.cls = RX12 ∧ yX12_weighsPages.cls ≠ "java/lang/invoke/MethodHandle" ∧ yX12_weighsPages.cls ≠ "java/lang/invoke/VarHandle" ∧ (parseMethodDescriptor yX12_weighsPages.desc).map (fun d => d.parameters.length) = some 0 := by decide +kernel
theorem w_i2267 : Cond.methodLink RX12 313 yX12_withBlank ∈ wU := w_at 2267 (by decide +kernel) (by decide +kernel)
theorem w_i2269 : Cond.instanceMethod yX12_withBlank ∈ wU := w_at 2269 (by decide +kernel) (by decide +kernel)
theorem w_i77 : Cond.selects RX12 yX12_withBlank yX12_withBlank ∈ wU := w_at 77 (by decide +kernel) (by decide +kernel)
theorem wl_313 : ∀ w ∈ ([.methodLink RX12 313 yX12_withBlank, .instanceMethod yX12_withBlank, .selects RX12 yX12_withBlank yX12_withBlank, .initialized RX12] : List Cond), w ∈ wU := w_4 w_i2267 w_i2269 w_i77 w_i90
theorem w_i2275 : Cond.constant RX12 316 2000000000 ∈ wU := w_at 2275 (by decide +kernel) (by decide +kernel)
theorem w_i2276 : Cond.methodLink RX12 317 yX12_withLines ∈ wU := w_at 2276 (by decide +kernel) (by decide +kernel)
theorem w_i2278 : Cond.instanceMethod yX12_withLines ∈ wU := w_at 2278 (by decide +kernel) (by decide +kernel)
theorem w_i79 : Cond.selects RX12 yX12_withLines yX12_withLines ∈ wU := w_at 79 (by decide +kernel) (by decide +kernel)
theorem wl_317 : ∀ w ∈ ([.methodLink RX12 317 yX12_withLines, .instanceMethod yX12_withLines, .selects RX12 yX12_withLines yX12_withLines, .initialized RX12] : List Cond), w ∈ wU := w_4 w_i2276 w_i2278 w_i79 w_i90
theorem cu_breaksPages : Cond.code yX12_breaksPages cX12_breaksPages 5 none ∈ wU := w_at 2262 (by decide +kernel) (by decide +kernel)
theorem hy_breaksPages : yX12_breaksPages.cls = RX12 ∧ yX12_breaksPages.cls ≠ "java/lang/invoke/MethodHandle" ∧ yX12_breaksPages.cls ≠ "java/lang/invoke/VarHandle" ∧ (parseMethodDescriptor yX12_breaksPages.desc).map (fun d => d.parameters.length) = some 0 := by decide +kernel
theorem w_i2263 : Cond.methodLink RX12 320 yX12_weighsPages ∈ wU := w_at 2263 (by decide +kernel) (by decide +kernel)
theorem w_i2265 : Cond.instanceMethod yX12_weighsPages ∈ wU := w_at 2265 (by decide +kernel) (by decide +kernel)
theorem w_i76 : Cond.selects RX12 yX12_weighsPages yX12_weighsPages ∈ wU := w_at 76 (by decide +kernel) (by decide +kernel)
theorem wl_320 : ∀ w ∈ ([.methodLink RX12 320 yX12_weighsPages, .instanceMethod yX12_weighsPages, .selects RX12 yX12_weighsPages yX12_weighsPages, .initialized RX12] : List Cond), w ∈ wU := w_4 w_i2263 w_i2265 w_i76 w_i90
theorem wf_323 : Cond.fieldLink RX12 323 RX12 (TX12 41).2.1 (TX12 41).2.2.1 ∈ wU := w_at 1766 (by decide +kernel) (by decide +kernel)
theorem wf_120 : Cond.fieldLink RX12 120 RX12 (TX12 42).2.1 (TX12 42).2.2.1 ∈ wU := w_at 1767 (by decide +kernel) (by decide +kernel)
theorem cu_isPaged : Cond.code yX12_isPaged cX12_isPaged 5 (some .boolean) ∈ wU := w_at 2241 (by decide +kernel) (by decide +kernel)
theorem hy_isPaged : yX12_isPaged.cls = RX12 ∧ yX12_isPaged.cls ≠ "java/lang/invoke/MethodHandle" ∧ yX12_isPaged.cls ≠ "java/lang/invoke/VarHandle" ∧ (parseMethodDescriptor yX12_isPaged.desc).map (fun d => d.parameters.length) = some 1 := by decide +kernel
theorem w_i2259 : Cond.methodLink RX12 336 yX12_breaksPages ∈ wU := w_at 2259 (by decide +kernel) (by decide +kernel)
theorem w_i2261 : Cond.instanceMethod yX12_breaksPages ∈ wU := w_at 2261 (by decide +kernel) (by decide +kernel)
theorem w_i75 : Cond.selects RX12 yX12_breaksPages yX12_breaksPages ∈ wU := w_at 75 (by decide +kernel) (by decide +kernel)
theorem wl_336 : ∀ w ∈ ([.methodLink RX12 336 yX12_breaksPages, .instanceMethod yX12_breaksPages, .selects RX12 yX12_breaksPages yX12_breaksPages, .initialized RX12] : List Cond), w ∈ wU := w_4 w_i2259 w_i2261 w_i75 w_i90
theorem w_i2242 : Cond.methodLink RX12 326 yX12_barAhead ∈ wU := w_at 2242 (by decide +kernel) (by decide +kernel)
theorem w_i2244 : Cond.instanceMethod yX12_barAhead ∈ wU := w_at 2244 (by decide +kernel) (by decide +kernel)
theorem w_i71 : Cond.selects RX12 yX12_barAhead yX12_barAhead ∈ wU := w_at 71 (by decide +kernel) (by decide +kernel)
theorem wl_326 : ∀ w ∈ ([.methodLink RX12 326 yX12_barAhead, .instanceMethod yX12_barAhead, .selects RX12 yX12_barAhead yX12_barAhead, .initialized RX12] : List Cond), w ∈ wU := w_4 w_i2242 w_i2244 w_i71 w_i90
theorem w_i2246 : Cond.methodLink RX12 329 yX12_restAt ∈ wU := w_at 2246 (by decide +kernel) (by decide +kernel)
theorem w_i2248 : Cond.instanceMethod yX12_restAt ∈ wU := w_at 2248 (by decide +kernel) (by decide +kernel)
theorem w_i72 : Cond.selects RX12 yX12_restAt yX12_restAt ∈ wU := w_at 72 (by decide +kernel) (by decide +kernel)
theorem wl_329 : ∀ w ∈ ([.methodLink RX12 329 yX12_restAt, .instanceMethod yX12_restAt, .selects RX12 yX12_restAt yX12_restAt, .initialized RX12] : List Cond), w ∈ wU := w_4 w_i2246 w_i2248 w_i72 w_i90
theorem w_i2254 : Cond.methodLink RX12 332 yX12_isInPhrase ∈ wU := w_at 2254 (by decide +kernel) (by decide +kernel)
theorem w_i2256 : Cond.instanceMethod yX12_isInPhrase ∈ wU := w_at 2256 (by decide +kernel) (by decide +kernel)
theorem w_i74 : Cond.selects RX12 yX12_isInPhrase yX12_isInPhrase ∈ wU := w_at 74 (by decide +kernel) (by decide +kernel)
theorem wl_332 : ∀ w ∈ ([.methodLink RX12 332 yX12_isInPhrase, .instanceMethod yX12_isInPhrase, .selects RX12 yX12_isInPhrase yX12_isInPhrase, .initialized RX12] : List Cond), w ∈ wU := w_4 w_i2254 w_i2256 w_i74 w_i90
theorem w_i2258 : Cond.constant RX12 335 500000 ∈ wU := w_at 2258 (by decide +kernel) (by decide +kernel)
theorem cu_pages : Cond.code yX12_pages cX12_pages 3 (some .int) ∈ wU := w_at 2237 (by decide +kernel) (by decide +kernel)
theorem hy_pages : yX12_pages.cls = RX12 ∧ yX12_pages.cls ≠ "java/lang/invoke/MethodHandle" ∧ yX12_pages.cls ≠ "java/lang/invoke/VarHandle" ∧ (parseMethodDescriptor yX12_pages.desc).map (fun d => d.parameters.length) = some 1 := by decide +kernel
theorem w_i2238 : Cond.methodLink RX12 339 yX12_isPaged ∈ wU := w_at 2238 (by decide +kernel) (by decide +kernel)
theorem w_i2240 : Cond.instanceMethod yX12_isPaged ∈ wU := w_at 2240 (by decide +kernel) (by decide +kernel)
theorem w_i70 : Cond.selects RX12 yX12_isPaged yX12_isPaged ∈ wU := w_at 70 (by decide +kernel) (by decide +kernel)
theorem wl_339 : ∀ w ∈ ([.methodLink RX12 339 yX12_isPaged, .instanceMethod yX12_isPaged, .selects RX12 yX12_isPaged yX12_isPaged, .initialized RX12] : List Cond), w ∈ wU := w_4 w_i2238 w_i2240 w_i70 w_i90
theorem cu_pageLines : Cond.code yX12_pageLines cX12_pageLines 4 (some .int) ∈ wU := w_at 2283 (by decide +kernel) (by decide +kernel)
theorem hy_pageLines : yX12_pageLines.cls = RX12 ∧ yX12_pageLines.cls ≠ "java/lang/invoke/MethodHandle" ∧ yX12_pageLines.cls ≠ "java/lang/invoke/VarHandle" ∧ (parseMethodDescriptor yX12_pageLines.desc).map (fun d => d.parameters.length) = some 2 := by decide +kernel
theorem cu_pageOf : Cond.code yX12_pageOf cX12_pageOf 7 (some .int) ∈ wU := w_at 2287 (by decide +kernel) (by decide +kernel)
theorem hy_pageOf : yX12_pageOf.cls = RX12 ∧ yX12_pageOf.cls ≠ "java/lang/invoke/MethodHandle" ∧ yX12_pageOf.cls ≠ "java/lang/invoke/VarHandle" ∧ (parseMethodDescriptor yX12_pageOf.desc).map (fun d => d.parameters.length) = some 2 := by decide +kernel
theorem cu_turnsTo : Cond.code yX12_turnsTo cX12_turnsTo 8 (some .int) ∈ wU := w_at 2295 (by decide +kernel) (by decide +kernel)
theorem hy_turnsTo : yX12_turnsTo.cls = RX12 ∧ yX12_turnsTo.cls ≠ "java/lang/invoke/MethodHandle" ∧ yX12_turnsTo.cls ≠ "java/lang/invoke/VarHandle" ∧ (parseMethodDescriptor yX12_turnsTo.desc).map (fun d => d.parameters.length) = some 2 := by decide +kernel
theorem cu_pageTurns : Cond.code yX12_pageTurns cX12_pageTurns 3 (some .int) ∈ wU := w_at 2291 (by decide +kernel) (by decide +kernel)
theorem hy_pageTurns : yX12_pageTurns.cls = RX12 ∧ yX12_pageTurns.cls ≠ "java/lang/invoke/MethodHandle" ∧ yX12_pageTurns.cls ≠ "java/lang/invoke/VarHandle" ∧ (parseMethodDescriptor yX12_pageTurns.desc).map (fun d => d.parameters.length) = some 1 := by decide +kernel
theorem w_i2292 : Cond.methodLink RX12 342 yX12_turnsTo ∈ wU := w_at 2292 (by decide +kernel) (by decide +kernel)
theorem w_i2294 : Cond.instanceMethod yX12_turnsTo ∈ wU := w_at 2294 (by decide +kernel) (by decide +kernel)
theorem w_i80 : Cond.selects RX12 yX12_turnsTo yX12_turnsTo ∈ wU := w_at 80 (by decide +kernel) (by decide +kernel)
theorem wl_342 : ∀ w ∈ ([.methodLink RX12 342 yX12_turnsTo, .instanceMethod yX12_turnsTo, .selects RX12 yX12_turnsTo yX12_turnsTo, .initialized RX12] : List Cond), w ∈ wU := w_4 w_i2292 w_i2294 w_i80 w_i90
theorem cu_isTurn : Cond.code yX12_isTurn cX12_isTurn 4 (some .boolean) ∈ wU := w_at 2303 (by decide +kernel) (by decide +kernel)
theorem hy_isTurn : yX12_isTurn.cls = RX12 ∧ yX12_isTurn.cls ≠ "java/lang/invoke/MethodHandle" ∧ yX12_isTurn.cls ≠ "java/lang/invoke/VarHandle" ∧ (parseMethodDescriptor yX12_isTurn.desc).map (fun d => d.parameters.length) = some 2 := by decide +kernel
theorem cu_turnBar : Cond.code yX12_turnBar cX12_turnBar 3 (some .int) ∈ wU := w_at 2299 (by decide +kernel) (by decide +kernel)
theorem hy_turnBar : yX12_turnBar.cls = RX12 ∧ yX12_turnBar.cls ≠ "java/lang/invoke/MethodHandle" ∧ yX12_turnBar.cls ≠ "java/lang/invoke/VarHandle" ∧ (parseMethodDescriptor yX12_turnBar.desc).map (fun d => d.parameters.length) = some 2 := by decide +kernel
theorem w_i2300 : Cond.methodLink RX12 345 yX12_isTurn ∈ wU := w_at 2300 (by decide +kernel) (by decide +kernel)
theorem w_i2302 : Cond.instanceMethod yX12_isTurn ∈ wU := w_at 2302 (by decide +kernel) (by decide +kernel)
theorem w_i81 : Cond.selects RX12 yX12_isTurn yX12_isTurn ∈ wU := w_at 81 (by decide +kernel) (by decide +kernel)
theorem wl_345 : ∀ w ∈ ([.methodLink RX12 345 yX12_isTurn, .instanceMethod yX12_isTurn, .selects RX12 yX12_isTurn yX12_isTurn, .initialized RX12] : List Cond), w ∈ wU := w_4 w_i2300 w_i2302 w_i81 w_i90
theorem cu_turnTime : Cond.code yX12_turnTime cX12_turnTime 3 (some .int) ∈ wU := w_at 2307 (by decide +kernel) (by decide +kernel)
theorem hy_turnTime : yX12_turnTime.cls = RX12 ∧ yX12_turnTime.cls ≠ "java/lang/invoke/MethodHandle" ∧ yX12_turnTime.cls ≠ "java/lang/invoke/VarHandle" ∧ (parseMethodDescriptor yX12_turnTime.desc).map (fun d => d.parameters.length) = some 2 := by decide +kernel
theorem cu_turnRest : Cond.code yX12_turnRest cX12_turnRest 3 (some .int) ∈ wU := w_at 2311 (by decide +kernel) (by decide +kernel)
theorem hy_turnRest : yX12_turnRest.cls = RX12 ∧ yX12_turnRest.cls ≠ "java/lang/invoke/MethodHandle" ∧ yX12_turnRest.cls ≠ "java/lang/invoke/VarHandle" ∧ (parseMethodDescriptor yX12_turnRest.desc).map (fun d => d.parameters.length) = some 2 := by decide +kernel
theorem cu_badTurns : Cond.code yX12_badTurns cX12_badTurns 5 (some .int) ∈ wU := w_at 2315 (by decide +kernel) (by decide +kernel)
theorem hy_badTurns : yX12_badTurns.cls = RX12 ∧ yX12_badTurns.cls ≠ "java/lang/invoke/MethodHandle" ∧ yX12_badTurns.cls ≠ "java/lang/invoke/VarHandle" ∧ (parseMethodDescriptor yX12_badTurns.desc).map (fun d => d.parameters.length) = some 1 := by decide +kernel
theorem cu_sheetsOf : Cond.code yX12_sheetsOf cX12_sheetsOf 1 (some .int) ∈ wU := w_at 2323 (by decide +kernel) (by decide +kernel)
theorem hy_sheetsOf : yX12_sheetsOf.cls = RX12 ∧ yX12_sheetsOf.cls ≠ "java/lang/invoke/MethodHandle" ∧ yX12_sheetsOf.cls ≠ "java/lang/invoke/VarHandle" ∧ (parseMethodDescriptor yX12_sheetsOf.desc).map (fun d => d.parameters.length) = some 0 := by decide +kernel
theorem cu_sheets : Cond.code yX12_sheets cX12_sheets 3 (some .int) ∈ wU := w_at 2319 (by decide +kernel) (by decide +kernel)
theorem hy_sheets : yX12_sheets.cls = RX12 ∧ yX12_sheets.cls ≠ "java/lang/invoke/MethodHandle" ∧ yX12_sheets.cls ≠ "java/lang/invoke/VarHandle" ∧ (parseMethodDescriptor yX12_sheets.desc).map (fun d => d.parameters.length) = some 1 := by decide +kernel
theorem w_i2320 : Cond.methodLink RX12 348 yX12_sheetsOf ∈ wU := w_at 2320 (by decide +kernel) (by decide +kernel)
theorem w_i2322 : Cond.instanceMethod yX12_sheetsOf ∈ wU := w_at 2322 (by decide +kernel) (by decide +kernel)
theorem w_i82 : Cond.selects RX12 yX12_sheetsOf yX12_sheetsOf ∈ wU := w_at 82 (by decide +kernel) (by decide +kernel)
theorem wl_348 : ∀ w ∈ ([.methodLink RX12 348 yX12_sheetsOf, .instanceMethod yX12_sheetsOf, .selects RX12 yX12_sheetsOf yX12_sheetsOf, .initialized RX12] : List Cond), w ∈ wU := w_4 w_i2320 w_i2322 w_i82 w_i90
theorem cu_sheetPage : Cond.code yX12_sheetPage cX12_sheetPage 9 (some .int) ∈ wU := w_at 2327 (by decide +kernel) (by decide +kernel)
theorem hy_sheetPage : yX12_sheetPage.cls = RX12 ∧ yX12_sheetPage.cls ≠ "java/lang/invoke/MethodHandle" ∧ yX12_sheetPage.cls ≠ "java/lang/invoke/VarHandle" ∧ (parseMethodDescriptor yX12_sheetPage.desc).map (fun d => d.parameters.length) = some 4 := by decide +kernel
