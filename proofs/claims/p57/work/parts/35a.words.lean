/-! WORDS OF THE LAW (1) -/
def cdOf (w : Option Cond) : List UInt8 := match w with
  | some (.code _ c _ _) => c.data.toList
  | _ => []
def cdIs (w : Option Cond) (y : MethodName) (n : Nat) (r : Option FieldType) : Bool := match w with
  | some (.code y' _ n' r') => decide (y' = y) && (decide (n' = n) && decide (r' = r))
  | _ => false
/-- a word of a long code: by its bytes, one behind the other -/
theorem w_atC {i : Nat} {y : MethodName} {c : ByteArray} {n : Nat} {r : Option FieldType} (h1 : cdIs lw_tbl[i]? y n r = true) (h2 : cdOf lw_tbl[i]? = c.data.toList) : lw_tbl[i]? = some (Cond.code y c n r) := by
  generalize lw_tbl[i]? = w at h1 h2
  unfold cdIs at h1
  split at h1
  · rename_i y' c' n' r'
    rw [Bool.and_eq_true, Bool.and_eq_true, decide_eq_true_eq, decide_eq_true_eq, decide_eq_true_eq] at h1
    obtain ⟨e1, e2, e3⟩ := h1
    subst e1
    subst e2
    subst e3
    have e4 : c' = c := by
      cases c' with
      | mk d' =>
        cases c with
        | mk d =>
          have h3 : d' = d := Array.ext' h2
          rw [h3]
    rw [e4]
  · cases h1
theorem kc_L_at : Cond.code yL_at cL_at 2 (some .int) ∈ wU := w_at 445 (w_atC (by decide +kernel) (by decide +kernel)) (by decide +kernel)
theorem hk_L_at : yL_at.cls = RL ∧ yL_at.cls ≠ "java/lang/invoke/MethodHandle" ∧ yL_at.cls ≠ "java/lang/invoke/VarHandle" ∧ (parseMethodDescriptor yL_at.desc).map (fun d => d.parameters.length) = some 2 := by decide +kernel
theorem kc_L_low : Cond.code yL_low cL_low 2 (some .int) ∈ wU := w_at 914 (w_atC (by decide +kernel) (by decide +kernel)) (by decide +kernel)
theorem hk_L_low : yL_low.cls = RL ∧ yL_low.cls ≠ "java/lang/invoke/MethodHandle" ∧ yL_low.cls ≠ "java/lang/invoke/VarHandle" ∧ (parseMethodDescriptor yL_low.desc).map (fun d => d.parameters.length) = some 2 := by decide +kernel
theorem v_i915 : Cond.constant RL 9 2147483647 ∈ wU := w_at 915 (by decide +kernel) (by decide +kernel)
theorem kc_L_addBar : Cond.codeWith yL_addBar cL_addBar 4 (some .int) [(0, 6, 7, 16), (0, 6, 11, 19)] ∈ wU := w_at 1126 (by decide +kernel) (by decide +kernel)
theorem hk_L_addBar : yL_addBar.cls = RL ∧ yL_addBar.cls ≠ "java/lang/invoke/MethodHandle" ∧ yL_addBar.cls ≠ "java/lang/invoke/VarHandle" ∧ (parseMethodDescriptor yL_addBar.desc).map (fun d => d.parameters.length) = some 3 := by decide +kernel
theorem v_i1127 : Cond.methodLink RL 10 yX11_addBar ∈ wU := w_at 1127 (by decide +kernel) (by decide +kernel)
theorem v_i1128 : Cond.instanceMethod yX11_addBar ∈ wU := w_at 1128 (by decide +kernel) (by decide +kernel)
theorem v_i1129 : Cond.selects RX11 yX11_addBar yX11_addBar ∈ wU := w_at 1129 (by decide +kernel) (by decide +kernel)
theorem vl_L_10 : ∀ w ∈ ([.methodLink RL 10 yX11_addBar, .instanceMethod yX11_addBar, .selects RX11 yX11_addBar yX11_addBar, .initialized RX11] : List Cond), w ∈ wU := w_4 v_i1127 v_i1128 v_i1129 v_i28
theorem v_i577 : Cond.classLink RL 16 "java/lang/IllegalArgumentException" ∈ wU := w_at 577 (by decide +kernel) (by decide +kernel)
theorem n_i590 : Cond.castable "java/lang/IllegalArgumentException" "java/lang/IllegalArgumentException" ∈ nwL := n_at 590 (by decide +kernel) rfl
theorem v_i617 : Cond.constant RL 18 (-1000002) ∈ wU := w_at 617 (by decide +kernel) (by decide +kernel)
theorem v_i632 : Cond.classLink RL 19 "java/lang/IllegalStateException" ∈ wU := w_at 632 (by decide +kernel) (by decide +kernel)
theorem n_i649 : Cond.castable "java/lang/IllegalStateException" "java/lang/IllegalStateException" ∈ nwL := n_at 649 (by decide +kernel) rfl
theorem v_i908 : Cond.constant RL 21 (-1000003) ∈ wU := w_at 908 (by decide +kernel) (by decide +kernel)
theorem kc_L_setMetre : Cond.codeWith yL_setMetre cL_setMetre 5 (some .int) [(0, 7, 8, 26), (0, 7, 13, 16), (0, 7, 18, 19)] ∈ wU := w_at 1205 (by decide +kernel) (by decide +kernel)
theorem hk_L_setMetre : yL_setMetre.cls = RL ∧ yL_setMetre.cls ≠ "java/lang/invoke/MethodHandle" ∧ yL_setMetre.cls ≠ "java/lang/invoke/VarHandle" ∧ (parseMethodDescriptor yL_setMetre.desc).map (fun d => d.parameters.length) = some 4 := by decide +kernel
theorem v_i1206 : Cond.methodLink RL 22 yX11_setMetre ∈ wU := w_at 1206 (by decide +kernel) (by decide +kernel)
theorem v_i1207 : Cond.instanceMethod yX11_setMetre ∈ wU := w_at 1207 (by decide +kernel) (by decide +kernel)
theorem v_i1208 : Cond.selects RX11 yX11_setMetre yX11_setMetre ∈ wU := w_at 1208 (by decide +kernel) (by decide +kernel)
theorem vl_L_22 : ∀ w ∈ ([.methodLink RL 22 yX11_setMetre, .instanceMethod yX11_setMetre, .selects RX11 yX11_setMetre yX11_setMetre, .initialized RX11] : List Cond), w ∈ wU := w_4 v_i1206 v_i1207 v_i1208 v_i28
theorem v_i457 : Cond.classLink RL 26 "java/lang/IndexOutOfBoundsException" ∈ wU := w_at 457 (by decide +kernel) (by decide +kernel)
theorem n_i467 : Cond.castable "java/lang/IndexOutOfBoundsException" "java/lang/IndexOutOfBoundsException" ∈ nwL := n_at 467 (by decide +kernel) rfl
theorem v_i533 : Cond.constant RL 28 (-1000001) ∈ wU := w_at 533 (by decide +kernel) (by decide +kernel)
theorem kc_L_setTempo : Cond.codeWith yL_setTempo cL_setTempo 4 (some .int) [(0, 6, 7, 26), (0, 6, 11, 16)] ∈ wU := w_at 1198 (by decide +kernel) (by decide +kernel)
theorem hk_L_setTempo : yL_setTempo.cls = RL ∧ yL_setTempo.cls ≠ "java/lang/invoke/MethodHandle" ∧ yL_setTempo.cls ≠ "java/lang/invoke/VarHandle" ∧ (parseMethodDescriptor yL_setTempo.desc).map (fun d => d.parameters.length) = some 3 := by decide +kernel
theorem v_i1199 : Cond.methodLink RL 29 yX11_setTempo ∈ wU := w_at 1199 (by decide +kernel) (by decide +kernel)
theorem v_i1200 : Cond.instanceMethod yX11_setTempo ∈ wU := w_at 1200 (by decide +kernel) (by decide +kernel)
theorem v_i1201 : Cond.selects RX11 yX11_setTempo yX11_setTempo ∈ wU := w_at 1201 (by decide +kernel) (by decide +kernel)
theorem vl_L_29 : ∀ w ∈ ([.methodLink RL 29 yX11_setTempo, .instanceMethod yX11_setTempo, .selects RX11 yX11_setTempo yX11_setTempo, .initialized RX11] : List Cond), w ∈ wU := w_4 v_i1199 v_i1200 v_i1201 v_i28
theorem kc_L_length : Cond.codeWith yL_length cL_length 3 (some .int) [(0, 5, 6, 26)] ∈ wU := w_at 555 (by decide +kernel) (by decide +kernel)
theorem hk_L_length : yL_length.cls = RL ∧ yL_length.cls ≠ "java/lang/invoke/MethodHandle" ∧ yL_length.cls ≠ "java/lang/invoke/VarHandle" ∧ (parseMethodDescriptor yL_length.desc).map (fun d => d.parameters.length) = some 2 := by decide +kernel
theorem v_i556 : Cond.methodLink RL 32 yX11_length ∈ wU := w_at 556 (by decide +kernel) (by decide +kernel)
theorem v_i557 : Cond.instanceMethod yX11_length ∈ wU := w_at 557 (by decide +kernel) (by decide +kernel)
theorem v_i558 : Cond.selects RX11 yX11_length yX11_length ∈ wU := w_at 558 (by decide +kernel) (by decide +kernel)
theorem vl_L_32 : ∀ w ∈ ([.methodLink RL 32 yX11_length, .instanceMethod yX11_length, .selects RX11 yX11_length yX11_length, .initialized RX11] : List Cond), w ∈ wU := w_4 v_i556 v_i557 v_i558 v_i28
theorem kc_L_tempo : Cond.codeWith yL_tempo cL_tempo 3 (some .int) [(0, 5, 6, 26)] ∈ wU := w_at 564 (by decide +kernel) (by decide +kernel)
theorem hk_L_tempo : yL_tempo.cls = RL ∧ yL_tempo.cls ≠ "java/lang/invoke/MethodHandle" ∧ yL_tempo.cls ≠ "java/lang/invoke/VarHandle" ∧ (parseMethodDescriptor yL_tempo.desc).map (fun d => d.parameters.length) = some 2 := by decide +kernel
theorem v_i565 : Cond.methodLink RL 36 yX11_tempo ∈ wU := w_at 565 (by decide +kernel) (by decide +kernel)
theorem v_i566 : Cond.instanceMethod yX11_tempo ∈ wU := w_at 566 (by decide +kernel) (by decide +kernel)
theorem v_i567 : Cond.selects RX11 yX11_tempo yX11_tempo ∈ wU := w_at 567 (by decide +kernel) (by decide +kernel)
theorem vl_L_36 : ∀ w ∈ ([.methodLink RL 36 yX11_tempo, .instanceMethod yX11_tempo, .selects RX11 yX11_tempo yX11_tempo, .initialized RX11] : List Cond), w ∈ wU := w_4 v_i565 v_i566 v_i567 v_i28
theorem kc_L_time : Cond.codeWith yL_time cL_time 3 (some .int) [(0, 5, 6, 26)] ∈ wU := w_at 543 (by decide +kernel) (by decide +kernel)
theorem hk_L_time : yL_time.cls = RL ∧ yL_time.cls ≠ "java/lang/invoke/MethodHandle" ∧ yL_time.cls ≠ "java/lang/invoke/VarHandle" ∧ (parseMethodDescriptor yL_time.desc).map (fun d => d.parameters.length) = some 2 := by decide +kernel
theorem v_i544 : Cond.methodLink RL 39 yX11_time ∈ wU := w_at 544 (by decide +kernel) (by decide +kernel)
theorem v_i545 : Cond.instanceMethod yX11_time ∈ wU := w_at 545 (by decide +kernel) (by decide +kernel)
theorem v_i546 : Cond.selects RX11 yX11_time yX11_time ∈ wU := w_at 546 (by decide +kernel) (by decide +kernel)
theorem vl_L_39 : ∀ w ∈ ([.methodLink RL 39 yX11_time, .instanceMethod yX11_time, .selects RX11 yX11_time yX11_time, .initialized RX11] : List Cond), w ∈ wU := w_4 v_i544 v_i545 v_i546 v_i28
theorem kc_L_insert : Cond.codeWith yL_insert cL_insert 8 (some .int) [(0, 13, 14, 16), (0, 13, 19, 26), (0, 13, 24, 19)] ∈ wU := w_at 1354 (by decide +kernel) (by decide +kernel)
theorem hk_L_insert : yL_insert.cls = RL ∧ yL_insert.cls ≠ "java/lang/invoke/MethodHandle" ∧ yL_insert.cls ≠ "java/lang/invoke/VarHandle" ∧ (parseMethodDescriptor yL_insert.desc).map (fun d => d.parameters.length) = some 7 := by decide +kernel
theorem v_i1355 : Cond.methodLink RL 42 yX11_insert ∈ wU := w_at 1355 (by decide +kernel) (by decide +kernel)
theorem v_i1356 : Cond.instanceMethod yX11_insert ∈ wU := w_at 1356 (by decide +kernel) (by decide +kernel)
theorem v_i1357 : Cond.selects RX11 yX11_insert yX11_insert ∈ wU := w_at 1357 (by decide +kernel) (by decide +kernel)
theorem vl_L_42 : ∀ w ∈ ([.methodLink RL 42 yX11_insert, .instanceMethod yX11_insert, .selects RX11 yX11_insert yX11_insert, .initialized RX11] : List Cond), w ∈ wU := w_4 v_i1355 v_i1356 v_i1357 v_i28
theorem kc_L_remove : Cond.codeWith yL_remove cL_remove 5 (some .int) [(0, 7, 8, 16), (0, 7, 13, 26)] ∈ wU := w_at 1667 (by decide +kernel) (by decide +kernel)
theorem hk_L_remove : yL_remove.cls = RL ∧ yL_remove.cls ≠ "java/lang/invoke/MethodHandle" ∧ yL_remove.cls ≠ "java/lang/invoke/VarHandle" ∧ (parseMethodDescriptor yL_remove.desc).map (fun d => d.parameters.length) = some 4 := by decide +kernel
theorem v_i1668 : Cond.methodLink RL 46 yX11_remove ∈ wU := w_at 1668 (by decide +kernel) (by decide +kernel)
theorem v_i1669 : Cond.instanceMethod yX11_remove ∈ wU := w_at 1669 (by decide +kernel) (by decide +kernel)
theorem v_i1670 : Cond.selects RX11 yX11_remove yX11_remove ∈ wU := w_at 1670 (by decide +kernel) (by decide +kernel)
theorem vl_L_46 : ∀ w ∈ ([.methodLink RL 46 yX11_remove, .instanceMethod yX11_remove, .selects RX11 yX11_remove yX11_remove, .initialized RX11] : List Cond), w ∈ wU := w_4 v_i1668 v_i1669 v_i1670 v_i28
theorem kc_L_setPitch : Cond.codeWith yL_setPitch cL_setPitch 6 (some .int) [(0, 9, 10, 16), (0, 9, 15, 26), (0, 9, 20, 19)] ∈ wU := w_at 1702 (by decide +kernel) (by decide +kernel)
theorem hk_L_setPitch : yL_setPitch.cls = RL ∧ yL_setPitch.cls ≠ "java/lang/invoke/MethodHandle" ∧ yL_setPitch.cls ≠ "java/lang/invoke/VarHandle" ∧ (parseMethodDescriptor yL_setPitch.desc).map (fun d => d.parameters.length) = some 5 := by decide +kernel
theorem v_i1703 : Cond.methodLink RL 49 yX11_setPitch ∈ wU := w_at 1703 (by decide +kernel) (by decide +kernel)
theorem v_i1704 : Cond.instanceMethod yX11_setPitch ∈ wU := w_at 1704 (by decide +kernel) (by decide +kernel)
theorem v_i1705 : Cond.selects RX11 yX11_setPitch yX11_setPitch ∈ wU := w_at 1705 (by decide +kernel) (by decide +kernel)
theorem vl_L_49 : ∀ w ∈ ([.methodLink RL 49 yX11_setPitch, .instanceMethod yX11_setPitch, .selects RX11 yX11_setPitch yX11_setPitch, .initialized RX11] : List Cond), w ∈ wU := w_4 v_i1703 v_i1704 v_i1705 v_i28
theorem kc_L_setTie : Cond.codeWith yL_setTie cL_setTie 6 (some .int) [(0, 17, 18, 16), (0, 17, 23, 26), (0, 17, 28, 19)] ∈ wU := w_at 1694 (by decide +kernel) (by decide +kernel)
theorem hk_L_setTie : yL_setTie.cls = RL ∧ yL_setTie.cls ≠ "java/lang/invoke/MethodHandle" ∧ yL_setTie.cls ≠ "java/lang/invoke/VarHandle" ∧ (parseMethodDescriptor yL_setTie.desc).map (fun d => d.parameters.length) = some 5 := by decide +kernel
theorem v_i1695 : Cond.methodLink RL 53 yX11_setTie ∈ wU := w_at 1695 (by decide +kernel) (by decide +kernel)
theorem v_i1696 : Cond.instanceMethod yX11_setTie ∈ wU := w_at 1696 (by decide +kernel) (by decide +kernel)
theorem v_i1697 : Cond.selects RX11 yX11_setTie yX11_setTie ∈ wU := w_at 1697 (by decide +kernel) (by decide +kernel)
theorem vl_L_53 : ∀ w ∈ ([.methodLink RL 53 yX11_setTie, .instanceMethod yX11_setTie, .selects RX11 yX11_setTie yX11_setTie, .initialized RX11] : List Cond), w ∈ wU := w_4 v_i1695 v_i1696 v_i1697 v_i28
theorem kc_L_setMark : Cond.codeWith yL_setMark cL_setMark 6 (some .int) [(0, 9, 10, 16), (0, 9, 15, 26)] ∈ wU := w_at 1687 (by decide +kernel) (by decide +kernel)
theorem hk_L_setMark : yL_setMark.cls = RL ∧ yL_setMark.cls ≠ "java/lang/invoke/MethodHandle" ∧ yL_setMark.cls ≠ "java/lang/invoke/VarHandle" ∧ (parseMethodDescriptor yL_setMark.desc).map (fun d => d.parameters.length) = some 5 := by decide +kernel
theorem v_i1688 : Cond.methodLink RL 57 yX11_setMark ∈ wU := w_at 1688 (by decide +kernel) (by decide +kernel)
theorem v_i1689 : Cond.instanceMethod yX11_setMark ∈ wU := w_at 1689 (by decide +kernel) (by decide +kernel)
theorem v_i1690 : Cond.selects RX11 yX11_setMark yX11_setMark ∈ wU := w_at 1690 (by decide +kernel) (by decide +kernel)
theorem vl_L_57 : ∀ w ∈ ([.methodLink RL 57 yX11_setMark, .instanceMethod yX11_setMark, .selects RX11 yX11_setMark yX11_setMark, .initialized RX11] : List Cond), w ∈ wU := w_4 v_i1688 v_i1689 v_i1690 v_i28
theorem kc_L_transpose : Cond.codeWith yL_transpose cL_transpose 4 (some .int) [(0, 6, 7, 16), (0, 6, 11, 19)] ∈ wU := w_at 1272 (by decide +kernel) (by decide +kernel)
theorem hk_L_transpose : yL_transpose.cls = RL ∧ yL_transpose.cls ≠ "java/lang/invoke/MethodHandle" ∧ yL_transpose.cls ≠ "java/lang/invoke/VarHandle" ∧ (parseMethodDescriptor yL_transpose.desc).map (fun d => d.parameters.length) = some 3 := by decide +kernel
theorem v_i1273 : Cond.methodLink RL 60 yX11_transpose ∈ wU := w_at 1273 (by decide +kernel) (by decide +kernel)
theorem v_i1274 : Cond.instanceMethod yX11_transpose ∈ wU := w_at 1274 (by decide +kernel) (by decide +kernel)
theorem v_i1275 : Cond.selects RX11 yX11_transpose yX11_transpose ∈ wU := w_at 1275 (by decide +kernel) (by decide +kernel)
theorem vl_L_60 : ∀ w ∈ ([.methodLink RL 60 yX11_transpose, .instanceMethod yX11_transpose, .selects RX11 yX11_transpose yX11_transpose, .initialized RX11] : List Cond), w ∈ wU := w_4 v_i1273 v_i1274 v_i1275 v_i28
theorem kc_L_events : Cond.codeWith yL_events cL_events 4 (some .int) [(0, 6, 7, 16), (0, 6, 11, 26)] ∈ wU := w_at 1004 (by decide +kernel) (by decide +kernel)
theorem hk_L_events : yL_events.cls = RL ∧ yL_events.cls ≠ "java/lang/invoke/MethodHandle" ∧ yL_events.cls ≠ "java/lang/invoke/VarHandle" ∧ (parseMethodDescriptor yL_events.desc).map (fun d => d.parameters.length) = some 3 := by decide +kernel
theorem v_i1005 : Cond.methodLink RL 63 yX11_events ∈ wU := w_at 1005 (by decide +kernel) (by decide +kernel)
theorem v_i1006 : Cond.instanceMethod yX11_events ∈ wU := w_at 1006 (by decide +kernel) (by decide +kernel)
theorem v_i1007 : Cond.selects RX11 yX11_events yX11_events ∈ wU := w_at 1007 (by decide +kernel) (by decide +kernel)
theorem vl_L_63 : ∀ w ∈ ([.methodLink RL 63 yX11_events, .instanceMethod yX11_events, .selects RX11 yX11_events yX11_events, .initialized RX11] : List Cond), w ∈ wU := w_4 v_i1005 v_i1006 v_i1007 v_i28
theorem kc_L_left : Cond.codeWith yL_left cL_left 4 (some .int) [(0, 6, 7, 16), (0, 6, 11, 26)] ∈ wU := w_at 1187 (by decide +kernel) (by decide +kernel)
theorem hk_L_left : yL_left.cls = RL ∧ yL_left.cls ≠ "java/lang/invoke/MethodHandle" ∧ yL_left.cls ≠ "java/lang/invoke/VarHandle" ∧ (parseMethodDescriptor yL_left.desc).map (fun d => d.parameters.length) = some 3 := by decide +kernel
theorem v_i1188 : Cond.methodLink RL 66 yX11_left ∈ wU := w_at 1188 (by decide +kernel) (by decide +kernel)
theorem v_i1189 : Cond.instanceMethod yX11_left ∈ wU := w_at 1189 (by decide +kernel) (by decide +kernel)
theorem v_i1190 : Cond.selects RX11 yX11_left yX11_left ∈ wU := w_at 1190 (by decide +kernel) (by decide +kernel)
theorem vl_L_66 : ∀ w ∈ ([.methodLink RL 66 yX11_left, .instanceMethod yX11_left, .selects RX11 yX11_left yX11_left, .initialized RX11] : List Cond), w ∈ wU := w_4 v_i1188 v_i1189 v_i1190 v_i28
theorem kc_L_isRight : Cond.codeWith yL_isRight cL_isRight 4 (some .int) [(0, 14, 15, 16), (0, 14, 19, 26)] ∈ wU := w_at 576 (by decide +kernel) (by decide +kernel)
theorem hk_L_isRight : yL_isRight.cls = RL ∧ yL_isRight.cls ≠ "java/lang/invoke/MethodHandle" ∧ yL_isRight.cls ≠ "java/lang/invoke/VarHandle" ∧ (parseMethodDescriptor yL_isRight.desc).map (fun d => d.parameters.length) = some 3 := by decide +kernel
theorem v_i578 : Cond.methodLink RL 69 yX11_isRight ∈ wU := w_at 578 (by decide +kernel) (by decide +kernel)
theorem v_i579 : Cond.instanceMethod yX11_isRight ∈ wU := w_at 579 (by decide +kernel) (by decide +kernel)
theorem v_i580 : Cond.selects RX11 yX11_isRight yX11_isRight ∈ wU := w_at 580 (by decide +kernel) (by decide +kernel)
theorem vl_L_69 : ∀ w ∈ ([.methodLink RL 69 yX11_isRight, .instanceMethod yX11_isRight, .selects RX11 yX11_isRight yX11_isRight, .initialized RX11] : List Cond), w ∈ wU := w_4 v_i578 v_i579 v_i580 v_i28
theorem kc_L_written : Cond.codeWith yL_written cL_written 5 (some .int) [(0, 7, 8, 16), (0, 7, 13, 26)] ∈ wU := w_at 1659 (by decide +kernel) (by decide +kernel)
theorem hk_L_written : yL_written.cls = RL ∧ yL_written.cls ≠ "java/lang/invoke/MethodHandle" ∧ yL_written.cls ≠ "java/lang/invoke/VarHandle" ∧ (parseMethodDescriptor yL_written.desc).map (fun d => d.parameters.length) = some 4 := by decide +kernel
theorem v_i1660 : Cond.methodLink RL 73 yX11_written ∈ wU := w_at 1660 (by decide +kernel) (by decide +kernel)
theorem v_i1661 : Cond.instanceMethod yX11_written ∈ wU := w_at 1661 (by decide +kernel) (by decide +kernel)
theorem v_i1662 : Cond.selects RX11 yX11_written yX11_written ∈ wU := w_at 1662 (by decide +kernel) (by decide +kernel)
theorem vl_L_73 : ∀ w ∈ ([.methodLink RL 73 yX11_written, .instanceMethod yX11_written, .selects RX11 yX11_written yX11_written, .initialized RX11] : List Cond), w ∈ wU := w_4 v_i1660 v_i1661 v_i1662 v_i28
theorem kc_L_addPhrase : Cond.codeWith yL_addPhrase cL_addPhrase 7 (some .int) [(0, 11, 12, 16), (0, 11, 17, 26), (0, 11, 22, 19)] ∈ wU := w_at 1301 (by decide +kernel) (by decide +kernel)
theorem hk_L_addPhrase : yL_addPhrase.cls = RL ∧ yL_addPhrase.cls ≠ "java/lang/invoke/MethodHandle" ∧ yL_addPhrase.cls ≠ "java/lang/invoke/VarHandle" ∧ (parseMethodDescriptor yL_addPhrase.desc).map (fun d => d.parameters.length) = some 6 := by decide +kernel
theorem v_i1302 : Cond.methodLink RL 76 yX11_addPhrase ∈ wU := w_at 1302 (by decide +kernel) (by decide +kernel)
theorem v_i1303 : Cond.instanceMethod yX11_addPhrase ∈ wU := w_at 1303 (by decide +kernel) (by decide +kernel)
theorem v_i1304 : Cond.selects RX11 yX11_addPhrase yX11_addPhrase ∈ wU := w_at 1304 (by decide +kernel) (by decide +kernel)
theorem vl_L_76 : ∀ w ∈ ([.methodLink RL 76 yX11_addPhrase, .instanceMethod yX11_addPhrase, .selects RX11 yX11_addPhrase yX11_addPhrase, .initialized RX11] : List Cond), w ∈ wU := w_4 v_i1302 v_i1303 v_i1304 v_i28
theorem kc_L_dropPhrase : Cond.codeWith yL_dropPhrase cL_dropPhrase 3 (some .int) [(0, 13, 14, 26)] ∈ wU := w_at 1341 (by decide +kernel) (by decide +kernel)
theorem hk_L_dropPhrase : yL_dropPhrase.cls = RL ∧ yL_dropPhrase.cls ≠ "java/lang/invoke/MethodHandle" ∧ yL_dropPhrase.cls ≠ "java/lang/invoke/VarHandle" ∧ (parseMethodDescriptor yL_dropPhrase.desc).map (fun d => d.parameters.length) = some 2 := by decide +kernel
theorem v_i1342 : Cond.methodLink RL 80 yX11_dropPhrase ∈ wU := w_at 1342 (by decide +kernel) (by decide +kernel)
theorem v_i1343 : Cond.instanceMethod yX11_dropPhrase ∈ wU := w_at 1343 (by decide +kernel) (by decide +kernel)
theorem v_i1344 : Cond.selects RX11 yX11_dropPhrase yX11_dropPhrase ∈ wU := w_at 1344 (by decide +kernel) (by decide +kernel)
theorem vl_L_80 : ∀ w ∈ ([.methodLink RL 80 yX11_dropPhrase, .instanceMethod yX11_dropPhrase, .selects RX11 yX11_dropPhrase yX11_dropPhrase, .initialized RX11] : List Cond), w ∈ wU := w_4 v_i1342 v_i1343 v_i1344 v_i28
theorem kc_L_allowTurn : Cond.codeWith yL_allowTurn cL_allowTurn 5 (some .int) [(0, 15, 16, 16), (0, 15, 21, 26)] ∈ wU := w_at 1294 (by decide +kernel) (by decide +kernel)
theorem hk_L_allowTurn : yL_allowTurn.cls = RL ∧ yL_allowTurn.cls ≠ "java/lang/invoke/MethodHandle" ∧ yL_allowTurn.cls ≠ "java/lang/invoke/VarHandle" ∧ (parseMethodDescriptor yL_allowTurn.desc).map (fun d => d.parameters.length) = some 4 := by decide +kernel
theorem v_i1295 : Cond.methodLink RL 84 yX11_allowTurn ∈ wU := w_at 1295 (by decide +kernel) (by decide +kernel)
theorem v_i1296 : Cond.instanceMethod yX11_allowTurn ∈ wU := w_at 1296 (by decide +kernel) (by decide +kernel)
theorem v_i1297 : Cond.selects RX11 yX11_allowTurn yX11_allowTurn ∈ wU := w_at 1297 (by decide +kernel) (by decide +kernel)
theorem vl_L_84 : ∀ w ∈ ([.methodLink RL 84 yX11_allowTurn, .instanceMethod yX11_allowTurn, .selects RX11 yX11_allowTurn yX11_allowTurn, .initialized RX11] : List Cond), w ∈ wU := w_4 v_i1295 v_i1296 v_i1297 v_i28
theorem kc_L_addRepeat : Cond.codeWith yL_addRepeat cL_addRepeat 5 (some .int) [(0, 7, 8, 26), (0, 7, 13, 16), (0, 7, 18, 19)] ∈ wU := w_at 1219 (by decide +kernel) (by decide +kernel)
theorem hk_L_addRepeat : yL_addRepeat.cls = RL ∧ yL_addRepeat.cls ≠ "java/lang/invoke/MethodHandle" ∧ yL_addRepeat.cls ≠ "java/lang/invoke/VarHandle" ∧ (parseMethodDescriptor yL_addRepeat.desc).map (fun d => d.parameters.length) = some 4 := by decide +kernel
theorem v_i1220 : Cond.methodLink RL 88 yX11_addRepeat ∈ wU := w_at 1220 (by decide +kernel) (by decide +kernel)
theorem v_i1221 : Cond.instanceMethod yX11_addRepeat ∈ wU := w_at 1221 (by decide +kernel) (by decide +kernel)
theorem v_i1222 : Cond.selects RX11 yX11_addRepeat yX11_addRepeat ∈ wU := w_at 1222 (by decide +kernel) (by decide +kernel)
theorem vl_L_88 : ∀ w ∈ ([.methodLink RL 88 yX11_addRepeat, .instanceMethod yX11_addRepeat, .selects RX11 yX11_addRepeat yX11_addRepeat, .initialized RX11] : List Cond), w ∈ wU := w_4 v_i1220 v_i1221 v_i1222 v_i28
theorem kc_L_dropRepeat : Cond.codeWith yL_dropRepeat cL_dropRepeat 3 (some .int) [(0, 5, 6, 26), (0, 5, 10, 19)] ∈ wU := w_at 1254 (by decide +kernel) (by decide +kernel)
theorem hk_L_dropRepeat : yL_dropRepeat.cls = RL ∧ yL_dropRepeat.cls ≠ "java/lang/invoke/MethodHandle" ∧ yL_dropRepeat.cls ≠ "java/lang/invoke/VarHandle" ∧ (parseMethodDescriptor yL_dropRepeat.desc).map (fun d => d.parameters.length) = some 2 := by decide +kernel
theorem v_i1255 : Cond.methodLink RL 91 yX11_dropRepeat ∈ wU := w_at 1255 (by decide +kernel) (by decide +kernel)
theorem v_i1256 : Cond.instanceMethod yX11_dropRepeat ∈ wU := w_at 1256 (by decide +kernel) (by decide +kernel)
theorem v_i1257 : Cond.selects RX11 yX11_dropRepeat yX11_dropRepeat ∈ wU := w_at 1257 (by decide +kernel) (by decide +kernel)
theorem vl_L_91 : ∀ w ∈ ([.methodLink RL 91 yX11_dropRepeat, .instanceMethod yX11_dropRepeat, .selects RX11 yX11_dropRepeat yX11_dropRepeat, .initialized RX11] : List Cond), w ∈ wU := w_4 v_i1255 v_i1256 v_i1257 v_i28
theorem kc_L_barAt : Cond.codeWith yL_barAt cL_barAt 3 (some .int) [(0, 5, 6, 26)] ∈ wU := w_at 456 (by decide +kernel) (by decide +kernel)
theorem hk_L_barAt : yL_barAt.cls = RL ∧ yL_barAt.cls ≠ "java/lang/invoke/MethodHandle" ∧ yL_barAt.cls ≠ "java/lang/invoke/VarHandle" ∧ (parseMethodDescriptor yL_barAt.desc).map (fun d => d.parameters.length) = some 2 := by decide +kernel
theorem v_i458 : Cond.methodLink RL 94 yX11_barAt ∈ wU := w_at 458 (by decide +kernel) (by decide +kernel)
theorem v_i459 : Cond.instanceMethod yX11_barAt ∈ wU := w_at 459 (by decide +kernel) (by decide +kernel)
theorem v_i460 : Cond.selects RX11 yX11_barAt yX11_barAt ∈ wU := w_at 460 (by decide +kernel) (by decide +kernel)
theorem vl_L_94 : ∀ w ∈ ([.methodLink RL 94 yX11_barAt, .instanceMethod yX11_barAt, .selects RX11 yX11_barAt yX11_barAt, .initialized RX11] : List Cond), w ∈ wU := w_4 v_i458 v_i459 v_i460 v_i28
theorem kc_L_startOf : Cond.codeWith yL_startOf cL_startOf 3 (some .int) [(0, 5, 6, 26)] ∈ wU := w_at 536 (by decide +kernel) (by decide +kernel)
theorem hk_L_startOf : yL_startOf.cls = RL ∧ yL_startOf.cls ≠ "java/lang/invoke/MethodHandle" ∧ yL_startOf.cls ≠ "java/lang/invoke/VarHandle" ∧ (parseMethodDescriptor yL_startOf.desc).map (fun d => d.parameters.length) = some 2 := by decide +kernel
theorem v_i537 : Cond.methodLink RL 97 yX11_startOf ∈ wU := w_at 537 (by decide +kernel) (by decide +kernel)
theorem v_i538 : Cond.instanceMethod yX11_startOf ∈ wU := w_at 538 (by decide +kernel) (by decide +kernel)
theorem v_i539 : Cond.selects RX11 yX11_startOf yX11_startOf ∈ wU := w_at 539 (by decide +kernel) (by decide +kernel)
theorem vl_L_97 : ∀ w ∈ ([.methodLink RL 97 yX11_startOf, .instanceMethod yX11_startOf, .selects RX11 yX11_startOf yX11_startOf, .initialized RX11] : List Cond), w ∈ wU := w_4 v_i537 v_i538 v_i539 v_i28
theorem kc_L_timeByEvents : Cond.codeWith yL_timeByEvents cL_timeByEvents 3 (some .int) [(0, 5, 6, 16)] ∈ wU := w_at 620 (by decide +kernel) (by decide +kernel)
theorem hk_L_timeByEvents : yL_timeByEvents.cls = RL ∧ yL_timeByEvents.cls ≠ "java/lang/invoke/MethodHandle" ∧ yL_timeByEvents.cls ≠ "java/lang/invoke/VarHandle" ∧ (parseMethodDescriptor yL_timeByEvents.desc).map (fun d => d.parameters.length) = some 2 := by decide +kernel
theorem v_i621 : Cond.methodLink RL 100 yX11_timeByEvents ∈ wU := w_at 621 (by decide +kernel) (by decide +kernel)
theorem v_i622 : Cond.instanceMethod yX11_timeByEvents ∈ wU := w_at 622 (by decide +kernel) (by decide +kernel)
theorem v_i623 : Cond.selects RX11 yX11_timeByEvents yX11_timeByEvents ∈ wU := w_at 623 (by decide +kernel) (by decide +kernel)
theorem vl_L_100 : ∀ w ∈ ([.methodLink RL 100 yX11_timeByEvents, .instanceMethod yX11_timeByEvents, .selects RX11 yX11_timeByEvents yX11_timeByEvents, .initialized RX11] : List Cond), w ∈ wU := w_4 v_i621 v_i622 v_i623 v_i28
theorem kc_L_soundVoice : Cond.codeWith yL_soundVoice cL_soundVoice 3 (some .int) [(0, 5, 6, 26)] ∈ wU := w_at 918 (by decide +kernel) (by decide +kernel)
theorem hk_L_soundVoice : yL_soundVoice.cls = RL ∧ yL_soundVoice.cls ≠ "java/lang/invoke/MethodHandle" ∧ yL_soundVoice.cls ≠ "java/lang/invoke/VarHandle" ∧ (parseMethodDescriptor yL_soundVoice.desc).map (fun d => d.parameters.length) = some 2 := by decide +kernel
theorem v_i919 : Cond.methodLink RL 103 yX11_soundVoice ∈ wU := w_at 919 (by decide +kernel) (by decide +kernel)
theorem v_i920 : Cond.instanceMethod yX11_soundVoice ∈ wU := w_at 920 (by decide +kernel) (by decide +kernel)
theorem v_i921 : Cond.selects RX11 yX11_soundVoice yX11_soundVoice ∈ wU := w_at 921 (by decide +kernel) (by decide +kernel)
theorem vl_L_103 : ∀ w ∈ ([.methodLink RL 103 yX11_soundVoice, .instanceMethod yX11_soundVoice, .selects RX11 yX11_soundVoice yX11_soundVoice, .initialized RX11] : List Cond), w ∈ wU := w_4 v_i919 v_i920 v_i921 v_i28
theorem kc_L_soundStart : Cond.codeWith yL_soundStart cL_soundStart 3 (some .int) [(0, 5, 6, 26)] ∈ wU := w_at 931 (by decide +kernel) (by decide +kernel)
theorem hk_L_soundStart : yL_soundStart.cls = RL ∧ yL_soundStart.cls ≠ "java/lang/invoke/MethodHandle" ∧ yL_soundStart.cls ≠ "java/lang/invoke/VarHandle" ∧ (parseMethodDescriptor yL_soundStart.desc).map (fun d => d.parameters.length) = some 2 := by decide +kernel
theorem v_i932 : Cond.methodLink RL 106 yX11_soundStart ∈ wU := w_at 932 (by decide +kernel) (by decide +kernel)
theorem v_i933 : Cond.instanceMethod yX11_soundStart ∈ wU := w_at 933 (by decide +kernel) (by decide +kernel)
theorem v_i934 : Cond.selects RX11 yX11_soundStart yX11_soundStart ∈ wU := w_at 934 (by decide +kernel) (by decide +kernel)
theorem vl_L_106 : ∀ w ∈ ([.methodLink RL 106 yX11_soundStart, .instanceMethod yX11_soundStart, .selects RX11 yX11_soundStart yX11_soundStart, .initialized RX11] : List Cond), w ∈ wU := w_4 v_i932 v_i933 v_i934 v_i28
theorem kc_L_soundTime : Cond.codeWith yL_soundTime cL_soundTime 3 (some .int) [(0, 5, 6, 26)] ∈ wU := w_at 938 (by decide +kernel) (by decide +kernel)
theorem hk_L_soundTime : yL_soundTime.cls = RL ∧ yL_soundTime.cls ≠ "java/lang/invoke/MethodHandle" ∧ yL_soundTime.cls ≠ "java/lang/invoke/VarHandle" ∧ (parseMethodDescriptor yL_soundTime.desc).map (fun d => d.parameters.length) = some 2 := by decide +kernel
theorem v_i939 : Cond.methodLink RL 109 yX11_soundTime ∈ wU := w_at 939 (by decide +kernel) (by decide +kernel)
theorem v_i940 : Cond.instanceMethod yX11_soundTime ∈ wU := w_at 940 (by decide +kernel) (by decide +kernel)
theorem v_i941 : Cond.selects RX11 yX11_soundTime yX11_soundTime ∈ wU := w_at 941 (by decide +kernel) (by decide +kernel)
theorem vl_L_109 : ∀ w ∈ ([.methodLink RL 109 yX11_soundTime, .instanceMethod yX11_soundTime, .selects RX11 yX11_soundTime yX11_soundTime, .initialized RX11] : List Cond), w ∈ wU := w_4 v_i939 v_i940 v_i941 v_i28
theorem kc_L_soundPitch : Cond.codeWith yL_soundPitch cL_soundPitch 3 (some .int) [(0, 5, 6, 26)] ∈ wU := w_at 945 (by decide +kernel) (by decide +kernel)
theorem hk_L_soundPitch : yL_soundPitch.cls = RL ∧ yL_soundPitch.cls ≠ "java/lang/invoke/MethodHandle" ∧ yL_soundPitch.cls ≠ "java/lang/invoke/VarHandle" ∧ (parseMethodDescriptor yL_soundPitch.desc).map (fun d => d.parameters.length) = some 2 := by decide +kernel
theorem v_i946 : Cond.methodLink RL 112 yX11_soundPitch ∈ wU := w_at 946 (by decide +kernel) (by decide +kernel)
theorem v_i947 : Cond.instanceMethod yX11_soundPitch ∈ wU := w_at 947 (by decide +kernel) (by decide +kernel)
