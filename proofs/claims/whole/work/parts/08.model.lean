def v_thrown (t : MS) : Int32 := (mgI t 45)
set_option maxRecDepth 20000 in
theorem c_thrown (l : Launch) (D : va_G) (cI cZ : ClassId) (mo : Nat) (ad : Nat → Nat) (t : MS) : MetM l yX12_thrown cX12_thrown 1 (some .int) 0 [.ref mo] (pI (fun r t' => (v_thrown t) = r ∧ t = t')) D cI cZ mo ad t := by
  refine gm_start (by decide) rfl (Nat.le_of_ble_eq_true rfl) (fun p e s m args below meth c C E => ?_)
  refine gm_aload C 0 dX12_thrown_0 rfl ?_
  refine gm_getI C 45 (by decide) rfl wf_129 rfl dX12_thrown_1 ?_
  exact gm_iret C E dX12_thrown_4 ⟨_, rfl, (rfl), rfl⟩
def v_in (a1 a2 a3 : Int32) : Int32 := (if (¬ (a1 < a2)) ∧ (¬ (a3 < a1)) then 1 else 0)
theorem vb_in {a1 a2 a3 : Int32} : gb (v_in a1 a2 a3) := by unfold v_in; split <;> first | exact Or.inr rfl | exact Or.inl rfl
set_option maxRecDepth 20000 in
theorem c_in (l : Launch) (D : va_G) (cI cZ : ClassId) (mo : Nat) (ad : Nat → Nat) (a1 a2 a3 : Int32) (t : MS) : MetM l yX12_in cX12_in 3 (some .boolean) 0 [.int a1, .int a2, .int a3] (pI (fun r t' => (v_in a1 a2 a3) = r ∧ t = t')) D cI cZ mo ad t := by
  refine gm_start (by decide) rfl (Nat.le_of_ble_eq_true rfl) (fun p e s m args below meth c C E => ?_)
  refine gm_iloadn C 0 0 dX12_in_0 rfl rfl ?_
  refine gm_iloadn C 1 1 dX12_in_1 rfl rfl ?_
  refine gm_icmp_lt C 14 dX12_in_2 (by decide) (fun c2_1 => ?_) (fun c2_1 => ?_)
  · refine gm_iconst C 0 dX12_in_14 (by decide) ?_
    exact gm_zret C E (Or.inl rfl) dX12_in_15 ⟨_, rfl, (Eq.symm ((if_neg (fun q0 => q0.1 c2_1)).symm)), rfl⟩
  · refine gm_iloadn C 0 0 dX12_in_5 rfl rfl ?_
    refine gm_iloadn C 2 2 dX12_in_6 rfl rfl ?_
    refine gm_icmp_gt C 14 dX12_in_7 (by decide) (fun c7_2 => ?_) (fun c7_2 => ?_)
    · refine gm_iconst C 0 dX12_in_14 (by decide) ?_
      exact gm_zret C E (Or.inl rfl) dX12_in_15 ⟨_, rfl, (Eq.symm ((if_neg (fun q0 => (fun q1 => q1 c7_2) q0.2)).symm)), rfl⟩
    · refine gm_iconst C 1 dX12_in_10 (by decide) ?_
      refine gm_goto C 15 dX12_in_11 (by decide) ?_
      exact gm_zret C E (Or.inr rfl) dX12_in_15 ⟨_, rfl, (Eq.symm ((if_pos ⟨c2_1, c7_2⟩).symm)), rfl⟩
def w_goes (a1 a2 a3 : Int32) (t : MS) (Q : Int32 → MS → Prop) : Prop := ∀ x1 : Int32, x1 = (if a1 = 0 then 1 else (if a2 = 0 then 2 else (if a3 = 0 then 3 else 0))) → ∀ t2 : MS, t2 = msI t 45 x1 → ∀ x3 : Int32, x3 = (if (mgI t2 45) = 0 then 1 else 0) → (gb x3) ∧ Q x3 t2
set_option maxRecDepth 20000 in
set_option maxHeartbeats 2000000 in
theorem c_goes (l : Launch) (D : va_G) (cI cZ : ClassId) (mo : Nat) (ad : Nat → Nat) (a1 a2 a3 : Int32) (t : MS) (Q : Int32 → MS → Prop) (h : w_goes a1 a2 a3 t Q) : MetM l yX12_goes cX12_goes 4 (some .boolean) 0 [.ref mo, .int a1, .int a2, .int a3] (pI Q) D cI cZ mo ad t := by
  unfold w_goes at h
  refine gm_start (by decide) rfl (Nat.le_of_ble_eq_true rfl) (fun p e s m args below meth c C E => ?_)
  refine gm_aload C 0 dX12_goes_0 rfl ?_
  refine gm_iloadn C 1 1 dX12_goes_1 rfl rfl ?_
  have k26 : ∀ x1 : Int32, x1 = (if a1 = 0 then 1 else (if a2 = 0 then 2 else (if a3 = 0 then 3 else 0))) → GM p l e (rmD 0) s m args below meth c 4 D cI cZ mo ad (gm_Q below D cI cZ mo ad (pI Q t) args s) t 26 [(0, .ref mo)] [.int x1, .ref mo] := by
    intro x1 ex1
    have h := h x1 ex1
    refine gm_putI C 45 (by decide) rfl wf_129 rfl rfl (by decide +kernel) dX12_goes_26 ?_
    refine gm_nameT (fun t2 et2 => ?_)
    have h := h t2 et2
    refine gm_aload C 0 dX12_goes_29 rfl ?_
    refine gm_getI C 45 (by decide) rfl wf_129 rfl dX12_goes_30 ?_
    have k41 : ∀ x3 : Int32, x3 = (if (mgI t2 45) = 0 then 1 else 0) → GM p l e (rmD 0) s m args below meth c 4 D cI cZ mo ad (gm_Q below D cI cZ mo ad (pI Q t) args s) t2 41 [] [.int x3] := by
      intro x3 ex3
      have h := h x3 ex3
      obtain ⟨g4, h⟩ := h
      exact gm_zret C E g4 dX12_goes_41 ⟨_, rfl, h⟩
    refine gm_if_ne C 40 dX12_goes_33 (by decide) (fun c33_4 => ?_) (fun c33_4 => ?_)
    · refine gm_iconst C 0 dX12_goes_40 (by decide) ?_
      refine gm_sub [] rfl ?_
      exact k41 _ ((if_neg c33_4).symm)
    · refine gm_iconst C 1 dX12_goes_36 (by decide) ?_
      refine gm_goto C 41 dX12_goes_37 (by decide) ?_
      refine gm_sub [] rfl ?_
      exact k41 _ ((if_pos c33_4).symm)
  refine gm_if_ne C 9 dX12_goes_2 (by decide) (fun c2_1 => ?_) (fun c2_1 => ?_)
  · refine gm_iloadn C 2 2 dX12_goes_9 rfl rfl ?_
    refine gm_if_ne C 17 dX12_goes_10 (by decide) (fun c10_2 => ?_) (fun c10_2 => ?_)
    · refine gm_iloadn C 3 3 dX12_goes_17 rfl rfl ?_
      refine gm_if_ne C 25 dX12_goes_18 (by decide) (fun c18_3 => ?_) (fun c18_3 => ?_)
      · refine gm_iconst C 0 dX12_goes_25 (by decide) ?_
        refine gm_sub [0] rfl ?_
        exact k26 _ (((Eq.trans (if_neg c2_1) (Eq.trans (if_neg c10_2) (if_neg c18_3)))).symm)
      · refine gm_iconst C 3 dX12_goes_21 (by decide) ?_
        refine gm_goto C 26 dX12_goes_22 (by decide) ?_
        refine gm_sub [0] rfl ?_
        exact k26 _ (((Eq.trans (if_neg c2_1) (Eq.trans (if_neg c10_2) (if_pos c18_3)))).symm)
    · refine gm_iconst C 2 dX12_goes_13 (by decide) ?_
      refine gm_goto C 26 dX12_goes_14 (by decide) ?_
      refine gm_sub [0] rfl ?_
      exact k26 _ (((Eq.trans (if_neg c2_1) (if_pos c10_2))).symm)
  · refine gm_iconst C 1 dX12_goes_5 (by decide) ?_
    refine gm_goto C 26 dX12_goes_6 (by decide) ?_
    refine gm_sub [0] rfl ?_
    exact k26 _ (((if_pos c2_1)).symm)
def w_tells (a1 : Int32) (t : MS) (Q : Int32 → MS → Prop) : Prop := ∀ t1 : MS, t1 = msI t 45 0 → Q a1 t1
set_option maxRecDepth 20000 in
set_option maxHeartbeats 2000000 in
theorem c_tells (l : Launch) (D : va_G) (cI cZ : ClassId) (mo : Nat) (ad : Nat → Nat) (a1 : Int32) (t : MS) (Q : Int32 → MS → Prop) (h : w_tells a1 t Q) : MetM l yX12_tells cX12_tells 2 (some .int) 0 [.ref mo, .int a1] (pI Q) D cI cZ mo ad t := by
  unfold w_tells at h
  refine gm_start (by decide) rfl (Nat.le_of_ble_eq_true rfl) (fun p e s m args below meth c C E => ?_)
  refine gm_aload C 0 dX12_tells_0 rfl ?_
  refine gm_iconst C 0 dX12_tells_1 (by decide) ?_
  refine gm_putI C 45 (by decide) rfl wf_129 rfl rfl (by decide +kernel) dX12_tells_2 ?_
  refine gm_nameT (fun t1 et1 => ?_)
  have h := h t1 et1
  refine gm_iloadn C 1 1 dX12_tells_5 rfl rfl ?_
  exact gm_iret C E dX12_tells_6 ⟨_, rfl, h⟩
def v_isBar (a1 : Int32) (t : MS) : Int32 := (v_in a1 0 ((mgI t 0) - 1))
set_option maxRecDepth 20000 in
theorem c_isBar (l : Launch) (D : va_G) (cI cZ : ClassId) (mo : Nat) (ad : Nat → Nat) (a1 : Int32) (t : MS) : MetM l yX12_isBar cX12_isBar 2 (some .boolean) 1 [.ref mo, .int a1] (pI (fun r t' => (v_isBar a1 t) = r ∧ t = t')) D cI cZ mo ad t := by
  refine gm_start (by decide) rfl (Nat.le_of_ble_eq_true rfl) (fun p e s m args below meth c C E => ?_)
  refine gm_iloadn C 1 1 dX12_isBar_0 rfl rfl ?_
  refine gm_iconst C 0 dX12_isBar_1 (by decide) ?_
  refine gm_aload C 0 dX12_isBar_2 rfl ?_
  refine gm_getI C 0 (by decide) rfl wf_132 rfl dX12_isBar_3 ?_
  refine gm_iconst C 1 dX12_isBar_6 (by decide) ?_
  refine gm_isub C dX12_isBar_7 ?_
  refine gm_callS C (y := yX12_in) (as := [.int a1, .int 0, .int ((mgI t 0) - 1)]) rfl (by decide) (by decide) (c_in l D cI cZ mo ad a1 0 ((mgI t 0) - 1) t) hy_in rfl wl_135 cu_in dX12_isBar_8 (Nat.le_of_ble_eq_true rfl) (kP ?_)
  exact gm_zret C E (vb_in ..) dX12_isBar_11 ⟨_, rfl, (rfl), rfl⟩
def v_isVoice (a1 : Int32) : Int32 := (v_in a1 0 3)
set_option maxRecDepth 20000 in
theorem c_isVoice (l : Launch) (D : va_G) (cI cZ : ClassId) (mo : Nat) (ad : Nat → Nat) (a1 : Int32) (t : MS) : MetM l yX12_isVoice cX12_isVoice 1 (some .boolean) 1 [.int a1] (pI (fun r t' => (v_isVoice a1) = r ∧ t = t')) D cI cZ mo ad t := by
  refine gm_start (by decide) rfl (Nat.le_of_ble_eq_true rfl) (fun p e s m args below meth c C E => ?_)
  refine gm_iloadn C 0 0 dX12_isVoice_0 rfl rfl ?_
  refine gm_iconst C 0 dX12_isVoice_1 (by decide) ?_
  refine gm_iconst C 3 dX12_isVoice_2 (by decide) ?_
  refine gm_callS C (y := yX12_in) (as := [.int a1, .int 0, .int 3]) rfl (by decide) (by decide) (c_in l D cI cZ mo ad a1 0 3 t) hy_in rfl wl_135 cu_in dX12_isVoice_3 (Nat.le_of_ble_eq_true rfl) (kP ?_)
  exact gm_zret C E (vb_in ..) dX12_isVoice_6 ⟨_, rfl, (rfl), rfl⟩
def v_at (a1 a2 : Int32) : Int32 := ((24 * a1) + a2)
set_option maxRecDepth 20000 in
theorem c_at (l : Launch) (D : va_G) (cI cZ : ClassId) (mo : Nat) (ad : Nat → Nat) (a1 a2 : Int32) (t : MS) : MetM l yX12_at cX12_at 2 (some .int) 0 [.int a1, .int a2] (pI (fun r t' => (v_at a1 a2) = r ∧ t = t')) D cI cZ mo ad t := by
  refine gm_start (by decide) rfl (Nat.le_of_ble_eq_true rfl) (fun p e s m args below meth c C E => ?_)
  refine gm_bipush C 24 dX12_at_0 (by decide) ?_
  refine gm_iloadn C 0 0 dX12_at_2 rfl rfl ?_
  refine gm_imul C dX12_at_3 ?_
  refine gm_iloadn C 1 1 dX12_at_4 rfl rfl ?_
  refine gm_iadd C dX12_at_5 ?_
  exact gm_iret C E dX12_at_6 ⟨_, rfl, (rfl), rfl⟩
def v_place (a1 a2 a3 : Int32) : Int32 := ((16 * (v_at a1 a2)) + a3)
set_option maxRecDepth 20000 in
theorem c_place (l : Launch) (D : va_G) (cI cZ : ClassId) (mo : Nat) (ad : Nat → Nat) (a1 a2 a3 : Int32) (t : MS) : MetM l yX12_place cX12_place 3 (some .int) 1 [.int a1, .int a2, .int a3] (pI (fun r t' => (v_place a1 a2 a3) = r ∧ t = t')) D cI cZ mo ad t := by
  refine gm_start (by decide) rfl (Nat.le_of_ble_eq_true rfl) (fun p e s m args below meth c C E => ?_)
  refine gm_bipush C 16 dX12_place_0 (by decide) ?_
  refine gm_iloadn C 0 0 dX12_place_2 rfl rfl ?_
  refine gm_iloadn C 1 1 dX12_place_3 rfl rfl ?_
  refine gm_callS C (y := yX12_at) (as := [.int a1, .int a2]) rfl (by decide) (by decide) (c_at l D cI cZ mo ad a1 a2 t) hy_at rfl wl_139 cu_at dX12_place_4 (Nat.le_of_ble_eq_true rfl) (kP ?_)
  refine gm_imul C dX12_place_7 ?_
  refine gm_iloadn C 2 2 dX12_place_8 rfl rfl ?_
  refine gm_iadd C dX12_place_9 ?_
  exact gm_iret C E dX12_place_10 ⟨_, rfl, (rfl), rfl⟩
def v_isEvent (a1 a2 a3 : Int32) (t : MS) : Int32 := (if (¬ ((v_isBar a2 t) = 0)) ∧ (¬ ((v_in a3 0 ((mgA t 6 (v_at a1 a2)) - 1)) = 0)) then 1 else 0)
def d_isEvent (a1 a2 a3 : Int32) (t : MS) : Prop := ((¬ ((v_isBar a2 t) = 0)) → (mIn 6 (v_at a1 a2)))
theorem vb_isEvent {a1 a2 a3 : Int32} {t : MS} : gb (v_isEvent a1 a2 a3 t) := by unfold v_isEvent; split <;> first | exact Or.inr rfl | exact Or.inl rfl
set_option maxRecDepth 20000 in
theorem c_isEvent (l : Launch) (D : va_G) (cI cZ : ClassId) (mo : Nat) (ad : Nat → Nat) (a1 a2 a3 : Int32) (t : MS) (h : d_isEvent a1 a2 a3 t) : MetM l yX12_isEvent cX12_isEvent 4 (some .boolean) 2 [.ref mo, .int a1, .int a2, .int a3] (pI (fun r t' => (v_isEvent a1 a2 a3 t) = r ∧ t = t')) D cI cZ mo ad t := by
  have g1 := h
  refine gm_start (by decide) rfl (Nat.le_of_ble_eq_true rfl) (fun p e s m args below meth c C E => ?_)
  refine gm_aload C 0 dX12_isEvent_0 rfl ?_
  refine gm_iloadn C 2 2 dX12_isEvent_1 rfl rfl ?_
  refine gm_callV C (y := yX12_isBar) (as := [.int a2]) rfl (by decide) (by decide) (c_isBar l D cI cZ mo ad a2 t) hy_isBar rfl wl_143 cu_isBar dX12_isEvent_2 (Nat.le_of_ble_eq_true rfl) (kP ?_)
  refine gm_if_eq C 32 dX12_isEvent_5 (by decide) (fun c5_1 => ?_) (fun c5_1 => ?_)
  · refine gm_iconst C 0 dX12_isEvent_32 (by decide) ?_
    exact gm_zret C E (Or.inl rfl) dX12_isEvent_33 ⟨_, rfl, (Eq.symm ((if_neg (fun q0 => q0.1 c5_1)).symm)), rfl⟩
  · refine gm_iloadn C 3 3 dX12_isEvent_8 rfl rfl ?_
    refine gm_iconst C 0 dX12_isEvent_9 (by decide) ?_
    refine gm_aload C 0 dX12_isEvent_10 rfl ?_
    refine gm_getA C 6 (by decide) rfl wf_25 rfl dX12_isEvent_11 ?_
    refine gm_iloadn C 1 1 dX12_isEvent_14 rfl rfl ?_
    refine gm_iloadn C 2 2 dX12_isEvent_15 rfl rfl ?_
    refine gm_callS C (y := yX12_at) (as := [.int a1, .int a2]) rfl (by decide) (by decide) (c_at l D cI cZ mo ad a1 a2 t) hy_at rfl wl_139 cu_at dX12_isEvent_16 (Nat.le_of_ble_eq_true rfl) (kP ?_)
    refine gm_iald C 6 (by decide) rfl (g1 c5_1) dX12_isEvent_19 ?_
    refine gm_iconst C 1 dX12_isEvent_20 (by decide) ?_
    refine gm_isub C dX12_isEvent_21 ?_
    refine gm_callS C (y := yX12_in) (as := [.int a3, .int 0, .int ((mgA t 6 (v_at a1 a2)) - 1)]) rfl (by decide) (by decide) (c_in l D cI cZ mo ad a3 0 ((mgA t 6 (v_at a1 a2)) - 1) t) hy_in rfl wl_135 cu_in dX12_isEvent_22 (Nat.le_of_ble_eq_true rfl) (kP ?_)
    refine gm_if_eq C 32 dX12_isEvent_25 (by decide) (fun c25_2 => ?_) (fun c25_2 => ?_)
    · refine gm_iconst C 0 dX12_isEvent_32 (by decide) ?_
      exact gm_zret C E (Or.inl rfl) dX12_isEvent_33 ⟨_, rfl, (Eq.symm ((if_neg (fun q0 => (fun q1 => q1 c25_2) q0.2)).symm)), rfl⟩
    · refine gm_iconst C 1 dX12_isEvent_28 (by decide) ?_
      refine gm_goto C 33 dX12_isEvent_29 (by decide) ?_
      exact gm_zret C E (Or.inr rfl) dX12_isEvent_33 ⟨_, rfl, (Eq.symm ((if_pos ⟨c5_1, c25_2⟩).symm)), rfl⟩
def v_isMetre (a1 a2 : Int32) : Int32 := (if (¬ ((v_in a1 1 9) = 0)) ∧ ((a2 = 2) ∨ ((a2 = 4) ∨ (a2 = 8))) then 1 else 0)
theorem vb_isMetre {a1 a2 : Int32} : gb (v_isMetre a1 a2) := by unfold v_isMetre; split <;> first | exact Or.inr rfl | exact Or.inl rfl
set_option maxRecDepth 20000 in
theorem c_isMetre (l : Launch) (D : va_G) (cI cZ : ClassId) (mo : Nat) (ad : Nat → Nat) (a1 a2 : Int32) (t : MS) : MetM l yX12_isMetre cX12_isMetre 2 (some .boolean) 1 [.int a1, .int a2] (pI (fun r t' => (v_isMetre a1 a2) = r ∧ t = t')) D cI cZ mo ad t := by
  refine gm_start (by decide) rfl (Nat.le_of_ble_eq_true rfl) (fun p e s m args below meth c C E => ?_)
  refine gm_iloadn C 0 0 dX12_isMetre_0 rfl rfl ?_
  refine gm_iconst C 1 dX12_isMetre_1 (by decide) ?_
  refine gm_bipush C 9 dX12_isMetre_2 (by decide) ?_
  refine gm_callS C (y := yX12_in) (as := [.int a1, .int 1, .int 9]) rfl (by decide) (by decide) (c_in l D cI cZ mo ad a1 1 9 t) hy_in rfl wl_135 cu_in dX12_isMetre_4 (Nat.le_of_ble_eq_true rfl) (kP ?_)
  refine gm_if_eq C 30 dX12_isMetre_7 (by decide) (fun c7_1 => ?_) (fun c7_1 => ?_)
  · refine gm_iconst C 0 dX12_isMetre_30 (by decide) ?_
    exact gm_zret C E (Or.inl rfl) dX12_isMetre_31 ⟨_, rfl, (Eq.symm ((if_neg (fun q0 => q0.1 c7_1)).symm)), rfl⟩
  · refine gm_iloadn C 1 1 dX12_isMetre_10 rfl rfl ?_
    refine gm_iconst C 2 dX12_isMetre_11 (by decide) ?_
    refine gm_icmp_eq C 26 dX12_isMetre_12 (by decide) (fun c12_2 => ?_) (fun c12_2 => ?_)
    · refine gm_iconst C 1 dX12_isMetre_26 (by decide) ?_
      refine gm_goto C 31 dX12_isMetre_27 (by decide) ?_
      exact gm_zret C E (Or.inr rfl) dX12_isMetre_31 ⟨_, rfl, (Eq.symm ((if_pos ⟨c7_1, (Or.inl c12_2)⟩).symm)), rfl⟩
    · refine gm_iloadn C 1 1 dX12_isMetre_15 rfl rfl ?_
      refine gm_iconst C 4 dX12_isMetre_16 (by decide) ?_
      refine gm_icmp_eq C 26 dX12_isMetre_17 (by decide) (fun c17_3 => ?_) (fun c17_3 => ?_)
      · refine gm_iconst C 1 dX12_isMetre_26 (by decide) ?_
        refine gm_goto C 31 dX12_isMetre_27 (by decide) ?_
        exact gm_zret C E (Or.inr rfl) dX12_isMetre_31 ⟨_, rfl, (Eq.symm ((if_pos ⟨c7_1, (Or.inr (Or.inl c17_3))⟩).symm)), rfl⟩
      · refine gm_iloadn C 1 1 dX12_isMetre_20 rfl rfl ?_
        refine gm_bipush C 8 dX12_isMetre_21 (by decide) ?_
        refine gm_icmp_ne C 30 dX12_isMetre_23 (by decide) (fun c23_4 => ?_) (fun c23_4 => ?_)
        · refine gm_iconst C 0 dX12_isMetre_30 (by decide) ?_
          exact gm_zret C E (Or.inl rfl) dX12_isMetre_31 ⟨_, rfl, (Eq.symm ((if_neg (fun q0 => (fun q1 => Or.elim q1 c12_2 (fun q2 => Or.elim q2 c17_3 c23_4)) q0.2)).symm)), rfl⟩
        · refine gm_iconst C 1 dX12_isMetre_26 (by decide) ?_
          refine gm_goto C 31 dX12_isMetre_27 (by decide) ?_
          exact gm_zret C E (Or.inr rfl) dX12_isMetre_31 ⟨_, rfl, (Eq.symm ((if_pos ⟨c7_1, (Or.inr (Or.inr c23_4))⟩).symm)), rfl⟩
def v_lengthOf (a1 : Int32) (t : MS) : Int32 := ((96 * (mgA t 1 a1)) / (mgA t 2 a1))
def d_lengthOf (a1 : Int32) (t : MS) : Prop := (mIn 1 a1) ∧ (mIn 2 a1) ∧ (¬ (mgA t 2 a1) = 0)
set_option maxRecDepth 20000 in
theorem c_lengthOf (l : Launch) (D : va_G) (cI cZ : ClassId) (mo : Nat) (ad : Nat → Nat) (a1 : Int32) (t : MS) (h : d_lengthOf a1 t) : MetM l yX12_lengthOf cX12_lengthOf 2 (some .int) 0 [.ref mo, .int a1] (pI (fun r t' => (v_lengthOf a1 t) = r ∧ t = t')) D cI cZ mo ad t := by
  obtain ⟨g1, g2, g3⟩ := h
  refine gm_start (by decide) rfl (Nat.le_of_ble_eq_true rfl) (fun p e s m args below meth c C E => ?_)
  refine gm_bipush C 96 dX12_lengthOf_0 (by decide) ?_
  refine gm_aload C 0 dX12_lengthOf_2 rfl ?_
  refine gm_getA C 1 (by decide) rfl wf_7 rfl dX12_lengthOf_3 ?_
  refine gm_iloadn C 1 1 dX12_lengthOf_6 rfl rfl ?_
  refine gm_iald C 1 (by decide) rfl (g1) dX12_lengthOf_7 ?_
  refine gm_imul C dX12_lengthOf_8 ?_
  refine gm_aload C 0 dX12_lengthOf_9 rfl ?_
  refine gm_getA C 2 (by decide) rfl wf_13 rfl dX12_lengthOf_10 ?_
  refine gm_iloadn C 1 1 dX12_lengthOf_13 rfl rfl ?_
  refine gm_iald C 2 (by decide) rfl (g2) dX12_lengthOf_14 ?_
  refine gm_idiv C dX12_lengthOf_15 (g3) ?_
  exact gm_iret C E dX12_lengthOf_16 ⟨_, rfl, (rfl), rfl⟩
def w_tempoOf_L5 (a1 : Int32) (t : MS) (Q : Int32 → MS → Prop) (K5 : (Int32 × Int32) → Prop) (z5 : Int32 × Int32) : Prop := ((a1 < z5.2) → Q z5.1 t) ∧ (¬ (a1 < z5.2) → (mIn 3 z5.2) ∧ ((¬ ((mgA t 3 z5.2) = (-1))) → mIn 3 z5.2) ∧ ∀ x2 : Int32, x2 = (if (mgA t 3 z5.2) = (-1) then z5.1 else (mgA t 3 z5.2)) → K5 (x2, (z5.2 + 1)))
def w_tempoOf (a1 : Int32) (t : MS) (Q : Int32 → MS → Prop) : Prop := ∃ n, lp (w_tempoOf_L5 a1 t Q) n (120, 0)
set_option maxRecDepth 20000 in
set_option maxHeartbeats 2000000 in
theorem c_tempoOf (l : Launch) (D : va_G) (cI cZ : ClassId) (mo : Nat) (ad : Nat → Nat) (a1 : Int32) (t : MS) (Q : Int32 → MS → Prop) (h : w_tempoOf a1 t Q) : MetM l yX12_tempoOf cX12_tempoOf 4 (some .int) 0 [.ref mo, .int a1] (pI Q) D cI cZ mo ad t := by
  unfold w_tempoOf at h
  refine gm_start (by decide) rfl (Nat.le_of_ble_eq_true rfl) (fun p e s m args below meth c C E => ?_)
  refine gm_bipush C 120 dX12_tempoOf_0 (by decide) ?_
  refine gm_istoren C 2 [(2, .int 120), (0, .ref mo), (1, .int a1)] dX12_tempoOf_2 rfl (by decide) rfl ?_
  refine gm_iconst C 0 dX12_tempoOf_3 (by decide) ?_
  refine gm_istoren C 3 [(3, .int 0), (2, .int 120), (0, .ref mo), (1, .int a1)] dX12_tempoOf_4 rfl (by decide) rfl ?_
  refine gm_sub [2, 3, 1, 0] rfl ?_
  obtain ⟨n5, h⟩ := h
  have k5 : ∀ (n5 : Nat) (z5 : Int32 × Int32), lp (w_tempoOf_L5 a1 t Q) n5 z5 → GM p l e (rmD 0) s m args below meth c 4 D cI cZ mo ad (gm_Q below D cI cZ mo ad (pI Q t) args s) t 5 [(0, .ref mo), (1, .int a1), (2, .int z5.1), (3, .int z5.2)] [] := by
    intro n5
    induction n5 with
    | zero => intro z5 h; exact h.elim
    | succ n5 ih5 =>
      intro z5 h
      have h : w_tempoOf_L5 a1 t Q (lp (w_tempoOf_L5 a1 t Q) n5) z5 := h
      unfold w_tempoOf_L5 at h
      refine gm_iloadn C 3 3 dX12_tempoOf_5 rfl rfl ?_
      refine gm_iloadn C 1 1 dX12_tempoOf_6 rfl rfl ?_
      refine gm_icmp_gt C 37 dX12_tempoOf_7 (by decide) (fun c7_1 => ?_) (fun c7_1 => ?_)
      · have h := h.1 c7_1
        refine gm_iloadn C 2 2 dX12_tempoOf_37 rfl rfl ?_
        exact gm_iret C E dX12_tempoOf_38 ⟨_, rfl, h⟩
      · have h := h.2 c7_1
        refine gm_aload C 0 dX12_tempoOf_10 rfl ?_
        refine gm_getA C 3 (by decide) rfl wf_16 rfl dX12_tempoOf_11 ?_
        refine gm_iloadn C 3 3 dX12_tempoOf_14 rfl rfl ?_
        obtain ⟨g1, h⟩ := h
        refine gm_iald C 3 (by decide) rfl g1 dX12_tempoOf_15 ?_
        refine gm_iconst C (-1) dX12_tempoOf_16 (by decide) ?_
        obtain ⟨g3, h⟩ := h
        have k30 : ∀ x2 : Int32, x2 = (if (mgA t 3 z5.2) = (-1) then z5.1 else (mgA t 3 z5.2)) → GM p l e (rmD 0) s m args below meth c 4 D cI cZ mo ad (gm_Q below D cI cZ mo ad (pI Q t) args s) t 30 [(0, .ref mo), (1, .int a1), (3, .int z5.2)] [.int x2] := by
          intro x2 ex2
          have h := h x2 ex2
          refine gm_istoren C 2 [(2, .int x2), (0, .ref mo), (1, .int a1), (3, .int z5.2)] dX12_tempoOf_30 rfl (by decide) rfl ?_
          refine gm_iinc C 3 (z5.2 + 1) [(3, .int (z5.2 + 1)), (2, .int x2), (0, .ref mo), (1, .int a1)] dX12_tempoOf_31 rfl rfl (by decide) rfl ?_
          refine gm_goto C 5 dX12_tempoOf_34 (by decide) ?_
          refine gm_sub [2, 3, 1, 0] rfl ?_
          have h9 := ih5 (x2, (z5.2 + 1)) h
          exact h9
        refine gm_icmp_ne C 24 dX12_tempoOf_17 (by decide) (fun c17_2 => ?_) (fun c17_2 => ?_)
        · refine gm_aload C 0 dX12_tempoOf_24 rfl ?_
          refine gm_getA C 3 (by decide) rfl wf_16 rfl dX12_tempoOf_25 ?_
          refine gm_iloadn C 3 3 dX12_tempoOf_28 rfl rfl ?_
          refine gm_iald C 3 (by decide) rfl (g3 c17_2) dX12_tempoOf_29 ?_
          refine gm_sub [0, 1, 3] rfl ?_
          exact k30 _ ((if_neg c17_2).symm)
        · refine gm_iloadn C 2 2 dX12_tempoOf_20 rfl rfl ?_
          refine gm_goto C 30 dX12_tempoOf_21 (by decide) ?_
          refine gm_sub [0, 1, 3] rfl ?_
          exact k30 _ ((if_pos c17_2).symm)
  exact k5 n5 (120, 0) h
def w_lasts (a1 a2 : Int32) (t : MS) (Q : Int32 → MS → Prop) : Prop := w_tempoOf a1 t (fun r1 t1 => (¬ r1 = 0) ∧ Q ((a2 * 2500) / r1) t1)
set_option maxRecDepth 20000 in
set_option maxHeartbeats 2000000 in
theorem c_lasts (l : Launch) (D : va_G) (cI cZ : ClassId) (mo : Nat) (ad : Nat → Nat) (a1 a2 : Int32) (t : MS) (Q : Int32 → MS → Prop) (h : w_lasts a1 a2 t Q) : MetM l yX12_lasts cX12_lasts 3 (some .int) 1 [.ref mo, .int a1, .int a2] (pI Q) D cI cZ mo ad t := by
  unfold w_lasts at h
  refine gm_start (by decide) rfl (Nat.le_of_ble_eq_true rfl) (fun p e s m args below meth c C E => ?_)
  refine gm_iloadn C 2 2 dX12_lasts_0 rfl rfl ?_
  refine gm_sipush C 2500 dX12_lasts_1 (by decide) ?_
  refine gm_imul C dX12_lasts_4 ?_
  refine gm_aload C 0 dX12_lasts_5 rfl ?_
  refine gm_iloadn C 1 1 dX12_lasts_6 rfl rfl ?_
  refine gm_callV C (y := yX12_tempoOf) (as := [.int a1]) rfl (by decide) (by decide) (c_tempoOf l D cI cZ mo ad a1 t _ h) hy_tempoOf rfl wl_147 cu_tempoOf dX12_lasts_7 (Nat.le_of_ble_eq_true rfl) (kI (fun r1 t1 h => ?_))
  obtain ⟨g2, h⟩ := h
  refine gm_idiv C dX12_lasts_10 g2 ?_
  exact gm_iret C E dX12_lasts_11 ⟨_, rfl, h⟩
def v_ticksOf (a1 : Int32) (t : MS) : Int32 := (if (mgA t 10 a1) = 1 then ((((96 : Int32) >>> ((mgA t 9 a1) &&& 31)) * 3) / 2) else (if (mgA t 10 a1) = 2 then ((((96 : Int32) >>> ((mgA t 9 a1) &&& 31)) * 2) / 3) else ((96 : Int32) >>> ((mgA t 9 a1) &&& 31))))
def d_ticksOf (a1 : Int32) (t : MS) : Prop := (mIn 9 a1) ∧ (mIn 10 a1) ∧ ((¬ ((mgA t 10 a1) = 1)) → (mIn 10 a1))
set_option maxRecDepth 20000 in
theorem c_ticksOf (l : Launch) (D : va_G) (cI cZ : ClassId) (mo : Nat) (ad : Nat → Nat) (a1 : Int32) (t : MS) (h : d_ticksOf a1 t) : MetM l yX12_ticksOf cX12_ticksOf 3 (some .int) 0 [.ref mo, .int a1] (pI (fun r t' => (v_ticksOf a1 t) = r ∧ t = t')) D cI cZ mo ad t := by
  obtain ⟨g1, g2, g3⟩ := h
  refine gm_start (by decide) rfl (Nat.le_of_ble_eq_true rfl) (fun p e s m args below meth c C E => ?_)
  refine gm_bipush C 96 dX12_ticksOf_0 (by decide) ?_
  refine gm_aload C 0 dX12_ticksOf_2 rfl ?_
  refine gm_getA C 9 (by decide) rfl wf_35 rfl dX12_ticksOf_3 ?_
  refine gm_iloadn C 1 1 dX12_ticksOf_6 rfl rfl ?_
  refine gm_iald C 9 (by decide) rfl (g1) dX12_ticksOf_7 ?_
  refine gm_ishr C dX12_ticksOf_8 ?_
  refine gm_istoren C 2 [(2, .int ((96 : Int32) >>> ((mgA t 9 a1) &&& 31))), (0, .ref mo), (1, .int a1)] dX12_ticksOf_9 rfl (by decide) rfl ?_
  refine gm_aload C 1 dX12_ticksOf_10 rfl ?_
  refine gm_getA C 10 (by decide) rfl wf_38 rfl dX12_ticksOf_11 ?_
  refine gm_iloadn C 2 1 dX12_ticksOf_14 rfl rfl ?_
  refine gm_iald C 10 (by decide) rfl (g2) dX12_ticksOf_15 ?_
  refine gm_iconst C 1 dX12_ticksOf_16 (by decide) ?_
  refine gm_icmp_ne C 28 dX12_ticksOf_17 (by decide) (fun c17_1 => ?_) (fun c17_1 => ?_)
  · refine gm_aload C 1 dX12_ticksOf_28 rfl ?_
    refine gm_getA C 10 (by decide) rfl wf_38 rfl dX12_ticksOf_29 ?_
    refine gm_iloadn C 2 1 dX12_ticksOf_32 rfl rfl ?_
    refine gm_iald C 10 (by decide) rfl (g3 c17_1) dX12_ticksOf_33 ?_
    refine gm_iconst C 2 dX12_ticksOf_34 (by decide) ?_
    refine gm_icmp_ne C 46 dX12_ticksOf_35 (by decide) (fun c35_2 => ?_) (fun c35_2 => ?_)
    · refine gm_iloadn C 0 2 dX12_ticksOf_46 rfl rfl ?_
      exact gm_iret C E dX12_ticksOf_47 ⟨_, rfl, (Eq.symm (((Eq.trans (if_neg c17_1) (if_neg c35_2))).symm)), rfl⟩
    · refine gm_iloadn C 0 2 dX12_ticksOf_38 rfl rfl ?_
      refine gm_iconst C 2 dX12_ticksOf_39 (by decide) ?_
      refine gm_imul C dX12_ticksOf_40 ?_
      refine gm_iconst C 3 dX12_ticksOf_41 (by decide) ?_
      refine gm_idiv C dX12_ticksOf_42 (by decide) ?_
      refine gm_goto C 47 dX12_ticksOf_43 (by decide) ?_
      exact gm_iret C E dX12_ticksOf_47 ⟨_, rfl, (Eq.symm (((Eq.trans (if_neg c17_1) (if_pos c35_2))).symm)), rfl⟩
  · refine gm_iloadn C 0 2 dX12_ticksOf_20 rfl rfl ?_
    refine gm_iconst C 3 dX12_ticksOf_21 (by decide) ?_
    refine gm_imul C dX12_ticksOf_22 ?_
    refine gm_iconst C 2 dX12_ticksOf_23 (by decide) ?_
    refine gm_idiv C dX12_ticksOf_24 (by decide) ?_
    refine gm_goto C 47 dX12_ticksOf_25 (by decide) ?_
    exact gm_iret C E dX12_ticksOf_47 ⟨_, rfl, (Eq.symm (((if_pos c17_1)).symm)), rfl⟩
def w_ticks_L6 (a1 : Int32) (a2 : Int32) (a3 : Int32) (t : MS) (Q : Int32 → MS → Prop) (K6 : (Int32 × Int32) → Prop) (z6 : Int32 × Int32) : Prop := ((a3 ≤ z6.2) → Q z6.1 t) ∧ (¬ (a3 ≤ z6.2) → (d_ticksOf (v_place a1 a2 z6.2) t) ∧ ∀ x2 : Int32, x2 = (z6.1 + (v_ticksOf (v_place a1 a2 z6.2) t)) → K6 (x2, (z6.2 + 1)))
def w_ticks (a1 a2 a3 : Int32) (t : MS) (Q : Int32 → MS → Prop) : Prop := ∃ n, lp (w_ticks_L6 a1 a2 a3 t Q) n (0, 0)
set_option maxRecDepth 20000 in
set_option maxHeartbeats 2000000 in
theorem c_ticks (l : Launch) (D : va_G) (cI cZ : ClassId) (mo : Nat) (ad : Nat → Nat) (a1 a2 a3 : Int32) (t : MS) (Q : Int32 → MS → Prop) (h : w_ticks a1 a2 a3 t Q) : MetM l yX12_ticks cX12_ticks 6 (some .int) 2 [.ref mo, .int a1, .int a2, .int a3] (pI Q) D cI cZ mo ad t := by
  unfold w_ticks at h
  refine gm_start (by decide) rfl (Nat.le_of_ble_eq_true rfl) (fun p e s m args below meth c C E => ?_)
  refine gm_iconst C 0 dX12_ticks_0 (by decide) ?_
  refine gm_istore C [(4, .int 0), (0, .ref mo), (1, .int a1), (2, .int a2), (3, .int a3)] dX12_ticks_1 (by decide) rfl ?_
  refine gm_iconst C 0 dX12_ticks_3 (by decide) ?_
  refine gm_istore C [(5, .int 0), (4, .int 0), (0, .ref mo), (1, .int a1), (2, .int a2), (3, .int a3)] dX12_ticks_4 (by decide) rfl ?_
  refine gm_sub [2, 3, 4, 5, 1, 0] rfl ?_
  obtain ⟨n6, h⟩ := h
  have k6 : ∀ (n6 : Nat) (z6 : Int32 × Int32), lp (w_ticks_L6 a1 a2 a3 t Q) n6 z6 → GM p l e (rmD 2) s m args below meth c 6 D cI cZ mo ad (gm_Q below D cI cZ mo ad (pI Q t) args s) t 6 [(0, .ref mo), (1, .int a1), (2, .int a2), (3, .int a3), (4, .int z6.1), (5, .int z6.2)] [] := by
    intro n6
    induction n6 with
    | zero => intro z6 h; exact h.elim
    | succ n6 ih6 =>
      intro z6 h
      have h : w_ticks_L6 a1 a2 a3 t Q (lp (w_ticks_L6 a1 a2 a3 t Q) n6) z6 := h
      unfold w_ticks_L6 at h
      refine gm_iload C 5 dX12_ticks_6 rfl ?_
      refine gm_iloadn C 3 3 dX12_ticks_8 rfl rfl ?_
      refine gm_icmp_ge C 34 dX12_ticks_9 (by decide) (fun c9_1 => ?_) (fun c9_1 => ?_)
      · have h := h.1 c9_1
        refine gm_iload C 4 dX12_ticks_34 rfl ?_
        exact gm_iret C E dX12_ticks_36 ⟨_, rfl, h⟩
      · have h := h.2 c9_1
        refine gm_iload C 4 dX12_ticks_12 rfl ?_
        refine gm_aload C 0 dX12_ticks_14 rfl ?_
        refine gm_iloadn C 1 1 dX12_ticks_15 rfl rfl ?_
        refine gm_iloadn C 2 2 dX12_ticks_16 rfl rfl ?_
        refine gm_iload C 5 dX12_ticks_17 rfl ?_
        refine gm_callS C (y := yX12_place) (as := [.int a1, .int a2, .int z6.2]) rfl (by decide) (by decide) (c_place l D cI cZ mo ad a1 a2 z6.2 t) hy_place rfl wl_151 cu_place dX12_ticks_19 (Nat.le_of_ble_eq_true rfl) (kP ?_)
        obtain ⟨g1, h⟩ := h
        refine gm_callV C (y := yX12_ticksOf) (as := [.int (v_place a1 a2 z6.2)]) rfl (by decide) (by decide) (c_ticksOf l D cI cZ mo ad (v_place a1 a2 z6.2) t g1) hy_ticksOf rfl wl_155 cu_ticksOf dX12_ticks_22 (Nat.le_of_ble_eq_true rfl) (kP ?_)
        refine gm_iadd C dX12_ticks_25 ?_
        refine gm_nameI (fun x2 ex2 => ?_)
        have h := h x2 ex2
        refine gm_istore C [(4, .int x2), (0, .ref mo), (1, .int a1), (2, .int a2), (3, .int a3), (5, .int z6.2)] dX12_ticks_26 (by decide) rfl ?_
        refine gm_iinc C 5 (z6.2 + 1) [(5, .int (z6.2 + 1)), (4, .int x2), (0, .ref mo), (1, .int a1), (2, .int a2), (3, .int a3)] dX12_ticks_28 rfl rfl (by decide) rfl ?_
        refine gm_goto C 6 dX12_ticks_31 (by decide) ?_
        refine gm_sub [2, 3, 4, 5, 1, 0] rfl ?_
        have h9 := ih6 (x2, (z6.2 + 1)) h
        exact h9
  exact k6 n6 (0, 0) h
def w_allTicks (a1 a2 : Int32) (t : MS) (Q : Int32 → MS → Prop) : Prop := (mIn 6 (v_at a1 a2)) ∧ w_ticks a1 a2 (mgA t 6 (v_at a1 a2)) t (fun r2 t2 => Q r2 t2)
set_option maxRecDepth 20000 in
set_option maxHeartbeats 2000000 in
theorem c_allTicks (l : Launch) (D : va_G) (cI cZ : ClassId) (mo : Nat) (ad : Nat → Nat) (a1 a2 : Int32) (t : MS) (Q : Int32 → MS → Prop) (h : w_allTicks a1 a2 t Q) : MetM l yX12_allTicks cX12_allTicks 3 (some .int) 3 [.ref mo, .int a1, .int a2] (pI Q) D cI cZ mo ad t := by
  unfold w_allTicks at h
  refine gm_start (by decide) rfl (Nat.le_of_ble_eq_true rfl) (fun p e s m args below meth c C E => ?_)
  refine gm_aload C 0 dX12_allTicks_0 rfl ?_
  refine gm_iloadn C 1 1 dX12_allTicks_1 rfl rfl ?_
  refine gm_iloadn C 2 2 dX12_allTicks_2 rfl rfl ?_
  refine gm_aload C 0 dX12_allTicks_3 rfl ?_
  refine gm_getA C 6 (by decide) rfl wf_25 rfl dX12_allTicks_4 ?_
  refine gm_iloadn C 1 1 dX12_allTicks_7 rfl rfl ?_
  refine gm_iloadn C 2 2 dX12_allTicks_8 rfl rfl ?_
  refine gm_callS C (y := yX12_at) (as := [.int a1, .int a2]) rfl (by decide) (by decide) (c_at l D cI cZ mo ad a1 a2 t) hy_at rfl wl_139 cu_at dX12_allTicks_9 (Nat.le_of_ble_eq_true rfl) (kP ?_)
  obtain ⟨g1, h⟩ := h
  refine gm_iald C 6 (by decide) rfl g1 dX12_allTicks_12 ?_
  refine gm_callV C (y := yX12_ticks) (as := [.int a1, .int a2, .int (mgA t 6 (v_at a1 a2))]) rfl (by decide) (by decide) (c_ticks l D cI cZ mo ad a1 a2 (mgA t 6 (v_at a1 a2)) t _ h) hy_ticks rfl wl_158 cu_ticks dX12_allTicks_13 (Nat.le_of_ble_eq_true rfl) (kI (fun r2 t2 h => ?_))
  exact gm_iret C E dX12_allTicks_16 ⟨_, rfl, h⟩
def w_addBar (a1 a2 : Int32) (t : MS) (Q : Int32 → MS → Prop) : Prop := ∀ x1 : Int32, x1 = (if ¬ (24 ≤ (mgI t 0)) then 1 else 0) → w_goes (v_isMetre a1 a2) x1 1 t (fun r2 t2 => ((r2 = 0) → Q 0 t2) ∧ (¬ (r2 = 0) → (mIn 1 (mgI t2 0)) ∧ ∀ t4 : MS, t4 = msA t2 1 (mgI t2 0) a1 → (mIn 2 (mgI t4 0)) ∧ ∀ t6 : MS, t6 = msA t4 2 (mgI t4 0) a2 → (mIn 3 (mgI t6 0)) ∧ ∀ t8 : MS, t8 = msA t6 3 (mgI t6 0) (-1) → (mIn 4 (mgI t8 0)) ∧ ∀ t10 : MS, t10 = msA t8 4 (mgI t8 0) (-1) → ∀ t11 : MS, t11 = msI t10 0 ((mgI t10 0) + 1) → Q ((mgI t11 0) - 1) t11))
set_option maxRecDepth 20000 in
set_option maxHeartbeats 2000000 in
theorem c_addBar (l : Launch) (D : va_G) (cI cZ : ClassId) (mo : Nat) (ad : Nat → Nat) (a1 a2 : Int32) (t : MS) (Q : Int32 → MS → Prop) (h : w_addBar a1 a2 t Q) : MetM l yX12_addBar cX12_addBar 3 (some .int) 2 [.ref mo, .int a1, .int a2] (pI Q) D cI cZ mo ad t := by
  unfold w_addBar at h
  refine gm_start (by decide) rfl (Nat.le_of_ble_eq_true rfl) (fun p e s m args below meth c C E => ?_)
  refine gm_aload C 0 dX12_addBar_0 rfl ?_
  refine gm_iloadn C 1 1 dX12_addBar_1 rfl rfl ?_
  refine gm_iloadn C 2 2 dX12_addBar_2 rfl rfl ?_
  refine gm_callS C (y := yX12_isMetre) (as := [.int a1, .int a2]) rfl (by decide) (by decide) (c_isMetre l D cI cZ mo ad a1 a2 t) hy_isMetre rfl wl_161 cu_isMetre dX12_addBar_3 (Nat.le_of_ble_eq_true rfl) (kP ?_)
  refine gm_aload C 0 dX12_addBar_6 rfl ?_
  refine gm_getI C 0 (by decide) rfl wf_132 rfl dX12_addBar_7 ?_
  refine gm_bipush C 24 dX12_addBar_10 (by decide) ?_
  have k20 : ∀ x1 : Int32, x1 = (if ¬ (24 ≤ (mgI t 0)) then 1 else 0) → GM p l e (rmD 2) s m args below meth c 3 D cI cZ mo ad (gm_Q below D cI cZ mo ad (pI Q t) args s) t 20 [(0, .ref mo), (1, .int a1), (2, .int a2)] [.int x1, .int (v_isMetre a1 a2), .ref mo] := by
    intro x1 ex1
    have h := h x1 ex1
    refine gm_iconst C 1 dX12_addBar_20 (by decide) ?_
    refine gm_callV C (y := yX12_goes) (as := [.int (v_isMetre a1 a2), .int x1, .int 1]) rfl (by decide) (by decide) (c_goes l D cI cZ mo ad (v_isMetre a1 a2) x1 1 t _ h) hy_goes rfl wl_165 cu_goes dX12_addBar_21 (Nat.le_of_ble_eq_true rfl) (kI (fun r2 t2 h => ?_))
    refine gm_if_ne C 29 dX12_addBar_24 (by decide) (fun c24_2 => ?_) (fun c24_2 => ?_)
    · have h := h.2 c24_2
      refine gm_aload C 0 dX12_addBar_29 rfl ?_
      refine gm_getA C 1 (by decide) rfl wf_7 rfl dX12_addBar_30 ?_
      refine gm_aload C 0 dX12_addBar_33 rfl ?_
      refine gm_getI C 0 (by decide) rfl wf_132 rfl dX12_addBar_34 ?_
      refine gm_iloadn C 1 1 dX12_addBar_37 rfl rfl ?_
      obtain ⟨g3, h⟩ := h
      refine gm_iast C 1 (by decide) rfl g3 dX12_addBar_38 ?_
      refine gm_nameT (fun t4 et4 => ?_)
      have h := h t4 et4
      refine gm_aload C 0 dX12_addBar_39 rfl ?_
      refine gm_getA C 2 (by decide) rfl wf_13 rfl dX12_addBar_40 ?_
      refine gm_aload C 0 dX12_addBar_43 rfl ?_
      refine gm_getI C 0 (by decide) rfl wf_132 rfl dX12_addBar_44 ?_
      refine gm_iloadn C 2 2 dX12_addBar_47 rfl rfl ?_
      obtain ⟨g5, h⟩ := h
      refine gm_iast C 2 (by decide) rfl g5 dX12_addBar_48 ?_
      refine gm_nameT (fun t6 et6 => ?_)
      have h := h t6 et6
      refine gm_aload C 0 dX12_addBar_49 rfl ?_
      refine gm_getA C 3 (by decide) rfl wf_16 rfl dX12_addBar_50 ?_
      refine gm_aload C 0 dX12_addBar_53 rfl ?_
      refine gm_getI C 0 (by decide) rfl wf_132 rfl dX12_addBar_54 ?_
      refine gm_iconst C (-1) dX12_addBar_57 (by decide) ?_
      obtain ⟨g7, h⟩ := h
      refine gm_iast C 3 (by decide) rfl g7 dX12_addBar_58 ?_
      refine gm_nameT (fun t8 et8 => ?_)
      have h := h t8 et8
      refine gm_aload C 0 dX12_addBar_59 rfl ?_
      refine gm_getA C 4 (by decide) rfl wf_19 rfl dX12_addBar_60 ?_
      refine gm_aload C 0 dX12_addBar_63 rfl ?_
      refine gm_getI C 0 (by decide) rfl wf_132 rfl dX12_addBar_64 ?_
      refine gm_iconst C (-1) dX12_addBar_67 (by decide) ?_
      obtain ⟨g9, h⟩ := h
      refine gm_iast C 4 (by decide) rfl g9 dX12_addBar_68 ?_
      refine gm_nameT (fun t10 et10 => ?_)
      have h := h t10 et10
      refine gm_aload C 0 dX12_addBar_69 rfl ?_
      refine gm_dup C dX12_addBar_70 rfl ?_
      refine gm_getI C 0 (by decide) rfl wf_132 rfl dX12_addBar_71 ?_
      refine gm_iconst C 1 dX12_addBar_74 (by decide) ?_
      refine gm_iadd C dX12_addBar_75 ?_
      refine gm_putI C 0 (by decide) rfl wf_132 rfl rfl (by decide +kernel) dX12_addBar_76 ?_
      refine gm_nameT (fun t11 et11 => ?_)
      have h := h t11 et11
      refine gm_aload C 0 dX12_addBar_79 rfl ?_
      refine gm_getI C 0 (by decide) rfl wf_132 rfl dX12_addBar_80 ?_
      refine gm_iconst C 1 dX12_addBar_83 (by decide) ?_
      refine gm_isub C dX12_addBar_84 ?_
      exact gm_iret C E dX12_addBar_85 ⟨_, rfl, h⟩
    · have h := h.1 c24_2
      refine gm_iconst C 0 dX12_addBar_27 (by decide) ?_
      exact gm_iret C E dX12_addBar_28 ⟨_, rfl, h⟩
  refine gm_icmp_ge C 19 dX12_addBar_12 (by decide) (fun c12_1 => ?_) (fun c12_1 => ?_)
  · refine gm_iconst C 0 dX12_addBar_19 (by decide) ?_
    exact k20 _ ((if_neg (fun q0 => q0 c12_1)).symm)
  · refine gm_iconst C 1 dX12_addBar_15 (by decide) ?_
    refine gm_goto C 20 dX12_addBar_16 (by decide) ?_
    exact k20 _ ((if_pos c12_1).symm)
def w_setMetre_L34 (a1 : Int32) (a2 : Int32) (a3 : Int32) (Q : Int32 → MS → Prop) (x1 : Int32) (x2 : Int32) (K34 : (Int32 × Int32 × MS) → Prop) (z34 : Int32 × Int32 × MS) : Prop := (((4 ≤ z34.2.1) ∨ (z34.1 = 0)) → w_goes x1 x2 z34.1 z34.2.2 (fun r4 t4 => ((r4 = 0) → Q 0 t4) ∧ (¬ (r4 = 0) → (d_lengthOf a1 t4) ∧ ∀ x6 : Int32, x6 = (v_lengthOf a1 t4) → (mIn 1 a1) ∧ ∀ t8 : MS, t8 = msA t4 1 a1 a2 → (mIn 2 a1) ∧ ∀ t10 : MS, t10 = msA t8 2 a1 a3 → Q x6 t10))) ∧ (¬ ((4 ≤ z34.2.1) ∨ (z34.1 = 0)) → w_allTicks z34.2.1 a1 z34.2.2 (fun r11 t11 => (¬ a3 = 0) ∧ ∀ x13 : Int32, x13 = (if ¬ (((96 * a2) / a3) < r11) then 1 else 0) → K34 (x13, (z34.2.1 + 1), t11)))
def w_setMetre (a1 a2 a3 : Int32) (t : MS) (Q : Int32 → MS → Prop) : Prop := ∀ x1 : Int32, x1 = (v_isBar a1 t) → ∀ x2 : Int32, x2 = (v_isMetre a2 a3) → ∀ x3 : Int32, x3 = (if (¬ (x1 = 0)) ∧ (¬ (x2 = 0)) then 1 else 0) → ∃ n, lp (w_setMetre_L34 a1 a2 a3 Q x1 x2) n (x3, 0, t)
set_option maxRecDepth 20000 in
set_option maxHeartbeats 2000000 in
theorem c_setMetre (l : Launch) (D : va_G) (cI cZ : ClassId) (mo : Nat) (ad : Nat → Nat) (a1 a2 a3 : Int32) (t : MS) (Q : Int32 → MS → Prop) (h : w_setMetre a1 a2 a3 t Q) : MetM l yX12_setMetre cX12_setMetre 8 (some .int) 4 [.ref mo, .int a1, .int a2, .int a3] (pI Q) D cI cZ mo ad t := by
  unfold w_setMetre at h
  refine gm_start (by decide) rfl (Nat.le_of_ble_eq_true rfl) (fun p e s m args below meth c C E => ?_)
  refine gm_aload C 0 dX12_setMetre_0 rfl ?_
  refine gm_iloadn C 1 1 dX12_setMetre_1 rfl rfl ?_
  refine gm_callV C (y := yX12_isBar) (as := [.int a1]) rfl (by decide) (by decide) (c_isBar l D cI cZ mo ad a1 t) hy_isBar rfl wl_143 cu_isBar dX12_setMetre_2 (Nat.le_of_ble_eq_true rfl) (kP ?_)
  refine gm_nameI (fun x1 ex1 => ?_)
  have h := h x1 ex1
  refine gm_istore C [(4, .int x1), (0, .ref mo), (1, .int a1), (2, .int a2), (3, .int a3)] dX12_setMetre_5 (by decide) rfl ?_
  refine gm_iloadn C 3 2 dX12_setMetre_7 rfl rfl ?_
  refine gm_iloadn C 4 3 dX12_setMetre_8 rfl rfl ?_
  refine gm_callS C (y := yX12_isMetre) (as := [.int a2, .int a3]) rfl (by decide) (by decide) (c_isMetre l D cI cZ mo ad a2 a3 t) hy_isMetre rfl wl_161 cu_isMetre dX12_setMetre_9 (Nat.le_of_ble_eq_true rfl) (kP ?_)
  refine gm_nameI (fun x2 ex2 => ?_)
  have h := h x2 ex2
  refine gm_istore C [(5, .int x2), (4, .int x1), (0, .ref mo), (1, .int a1), (2, .int a2), (3, .int a3)] dX12_setMetre_12 (by decide) rfl ?_
  refine gm_iload C 1 dX12_setMetre_14 rfl ?_
  have k29 : ∀ x3 : Int32, x3 = (if (¬ (x1 = 0)) ∧ (¬ (x2 = 0)) then 1 else 0) → GM p l e (rmD 4) s m args below meth c 8 D cI cZ mo ad (gm_Q below D cI cZ mo ad (pI Q t) args s) t 29 [(0, .ref mo), (1, .int a1), (2, .int a2), (3, .int a3), (4, .int x1), (5, .int x2)] [.int x3] := by
    intro x3 ex3
    have h := h x3 ex3
    refine gm_istore C [(6, .int x3), (0, .ref mo), (1, .int a1), (2, .int a2), (3, .int a3), (4, .int x1), (5, .int x2)] dX12_setMetre_29 (by decide) rfl ?_
    refine gm_iconst C 0 dX12_setMetre_31 (by decide) ?_
    refine gm_istore C [(7, .int 0), (6, .int x3), (0, .ref mo), (1, .int a1), (2, .int a2), (3, .int a3), (4, .int x1), (5, .int x2)] dX12_setMetre_32 (by decide) rfl ?_
    refine gm_sub [2, 3, 4, 5, 6, 7, 1, 0] rfl ?_
    obtain ⟨n34, h⟩ := h
    have k34 : ∀ (n34 : Nat) (z34 : Int32 × Int32 × MS), lp (w_setMetre_L34 a1 a2 a3 Q x1 x2) n34 z34 → GM p l e (rmD 4) s m args below meth c 8 D cI cZ mo ad (gm_Q below D cI cZ mo ad (pI Q t) args s) z34.2.2 34 [(0, .ref mo), (1, .int a1), (2, .int a2), (3, .int a3), (4, .int x1), (5, .int x2), (6, .int z34.1), (7, .int z34.2.1)] [] := by
      intro n34
      induction n34 with
      | zero => intro z34 h; exact h.elim
      | succ n34 ih34 =>
        intro z34 h
        have h : w_setMetre_L34 a1 a2 a3 Q x1 x2 (lp (w_setMetre_L34 a1 a2 a3 Q x1 x2) n34) z34 := h
        unfold w_setMetre_L34 at h
        refine gm_iload C 7 dX12_setMetre_34 rfl ?_
        refine gm_iconst C 4 dX12_setMetre_36 (by decide) ?_
        have kt34 : ((4 ≤ z34.2.1) ∨ (z34.1 = 0)) → GM p l e (rmD 4) s m args below meth c 8 D cI cZ mo ad (gm_Q below D cI cZ mo ad (pI Q t) args s) z34.2.2 74 [(0, .ref mo), (1, .int a1), (2, .int a2), (3, .int a3), (4, .int x1), (5, .int x2), (6, .int z34.1), (7, .int z34.2.1)] [] := by
          intro hc
          have h := h.1 hc
          refine gm_aload C 0 dX12_setMetre_74 rfl ?_
          refine gm_iload C 4 dX12_setMetre_75 rfl ?_
          refine gm_iload C 5 dX12_setMetre_77 rfl ?_
          refine gm_iload C 6 dX12_setMetre_79 rfl ?_
          refine gm_callV C (y := yX12_goes) (as := [.int x1, .int x2, .int z34.1]) rfl (by decide) (by decide) (c_goes l D cI cZ mo ad x1 x2 z34.1 z34.2.2 _ h) hy_goes rfl wl_165 cu_goes dX12_setMetre_81 (Nat.le_of_ble_eq_true rfl) (kI (fun r4 t4 h => ?_))
          refine gm_if_ne C 89 dX12_setMetre_84 (by decide) (fun c84_5 => ?_) (fun c84_5 => ?_)
          · have h := h.2 c84_5
            refine gm_aload C 0 dX12_setMetre_89 rfl ?_
            refine gm_iloadn C 1 1 dX12_setMetre_90 rfl rfl ?_
            obtain ⟨g5, h⟩ := h
            refine gm_callV C (y := yX12_lengthOf) (as := [.int a1]) rfl (by decide) (by decide) (c_lengthOf l D cI cZ mo ad a1 t4 g5) hy_lengthOf rfl wl_172 cu_lengthOf dX12_setMetre_91 (Nat.le_of_ble_eq_true rfl) (kP ?_)
            refine gm_nameI (fun x6 ex6 => ?_)
            have h := h x6 ex6
            refine gm_istore C [(7, .int x6), (0, .ref mo), (1, .int a1), (2, .int a2), (3, .int a3), (4, .int x1), (5, .int x2), (6, .int z34.1)] dX12_setMetre_94 (by decide) rfl ?_
            refine gm_aload C 1 dX12_setMetre_96 rfl ?_
            refine gm_getA C 1 (by decide) rfl wf_7 rfl dX12_setMetre_97 ?_
            refine gm_iloadn C 2 1 dX12_setMetre_100 rfl rfl ?_
            refine gm_iloadn C 3 2 dX12_setMetre_101 rfl rfl ?_
            obtain ⟨g7, h⟩ := h
            refine gm_iast C 1 (by decide) rfl g7 dX12_setMetre_102 ?_
            refine gm_nameT (fun t8 et8 => ?_)
            have h := h t8 et8
            refine gm_aload C 1 dX12_setMetre_103 rfl ?_
            refine gm_getA C 2 (by decide) rfl wf_13 rfl dX12_setMetre_104 ?_
            refine gm_iloadn C 2 1 dX12_setMetre_107 rfl rfl ?_
            refine gm_iloadn C 4 3 dX12_setMetre_108 rfl rfl ?_
            obtain ⟨g9, h⟩ := h
            refine gm_iast C 2 (by decide) rfl g9 dX12_setMetre_109 ?_
            refine gm_nameT (fun t10 et10 => ?_)
            have h := h t10 et10
            refine gm_iload C 0 dX12_setMetre_110 rfl ?_
            exact gm_iret C E dX12_setMetre_112 ⟨_, rfl, h⟩
          · have h := h.1 c84_5
            refine gm_iconst C 0 dX12_setMetre_87 (by decide) ?_
            exact gm_iret C E dX12_setMetre_88 ⟨_, rfl, h⟩
        have kf34 : ¬ ((4 ≤ z34.2.1) ∨ (z34.1 = 0)) → GM p l e (rmD 4) s m args below meth c 8 D cI cZ mo ad (gm_Q below D cI cZ mo ad (pI Q t) args s) z34.2.2 45 [(0, .ref mo), (1, .int a1), (2, .int a2), (3, .int a3), (4, .int x1), (5, .int x2), (6, .int z34.1), (7, .int z34.2.1)] [] := by
          intro hc
          have h := h.2 hc
          refine gm_aload C 0 dX12_setMetre_45 rfl ?_
          refine gm_iload C 7 dX12_setMetre_46 rfl ?_
          refine gm_iloadn C 1 1 dX12_setMetre_48 rfl rfl ?_
          refine gm_callV C (y := yX12_allTicks) (as := [.int z34.2.1, .int a1]) rfl (by decide) (by decide) (c_allTicks l D cI cZ mo ad z34.2.1 a1 z34.2.2 _ h) hy_allTicks rfl wl_169 cu_allTicks dX12_setMetre_49 (Nat.le_of_ble_eq_true rfl) (kI (fun r11 t11 h => ?_))
          refine gm_bipush C 96 dX12_setMetre_52 (by decide) ?_
          refine gm_iloadn C 2 2 dX12_setMetre_54 rfl rfl ?_
          refine gm_imul C dX12_setMetre_55 ?_
          refine gm_iloadn C 3 3 dX12_setMetre_56 rfl rfl ?_
          obtain ⟨g12, h⟩ := h
          refine gm_idiv C dX12_setMetre_57 g12 ?_
          have k66 : ∀ x13 : Int32, x13 = (if ¬ (((96 * a2) / a3) < r11) then 1 else 0) → GM p l e (rmD 4) s m args below meth c 8 D cI cZ mo ad (gm_Q below D cI cZ mo ad (pI Q t) args s) t11 66 [(0, .ref mo), (1, .int a1), (2, .int a2), (3, .int a3), (4, .int x1), (5, .int x2), (7, .int z34.2.1)] [.int x13] := by
            intro x13 ex13
            have h := h x13 ex13
            refine gm_istore C [(6, .int x13), (0, .ref mo), (1, .int a1), (2, .int a2), (3, .int a3), (4, .int x1), (5, .int x2), (7, .int z34.2.1)] dX12_setMetre_66 (by decide) rfl ?_
            refine gm_iinc C 7 (z34.2.1 + 1) [(7, .int (z34.2.1 + 1)), (6, .int x13), (0, .ref mo), (1, .int a1), (2, .int a2), (3, .int a3), (4, .int x1), (5, .int x2)] dX12_setMetre_68 rfl rfl (by decide) rfl ?_
            refine gm_goto C 34 dX12_setMetre_71 (by decide) ?_
            refine gm_sub [2, 3, 4, 5, 6, 7, 1, 0] rfl ?_
            have h9 := ih34 (x13, (z34.2.1 + 1), t11) h
            exact h9
          refine gm_icmp_gt C 65 dX12_setMetre_58 (by decide) (fun c58_6 => ?_) (fun c58_6 => ?_)
          · refine gm_iconst C 0 dX12_setMetre_65 (by decide) ?_
            refine gm_sub [0, 1, 2, 3, 4, 5, 7] rfl ?_
            exact k66 _ ((if_neg (fun q0 => q0 c58_6)).symm)
          · refine gm_iconst C 1 dX12_setMetre_61 (by decide) ?_
            refine gm_goto C 66 dX12_setMetre_62 (by decide) ?_
            refine gm_sub [0, 1, 2, 3, 4, 5, 7] rfl ?_
            exact k66 _ ((if_pos c58_6).symm)
        refine gm_icmp_ge C 74 dX12_setMetre_37 (by decide) (fun c37_3 => ?_) (fun c37_3 => ?_)
        · exact kt34 (Or.inl c37_3)
        · refine gm_iload C 6 dX12_setMetre_40 rfl ?_
          refine gm_if_eq C 74 dX12_setMetre_42 (by decide) (fun c42_4 => ?_) (fun c42_4 => ?_)
          · exact kt34 (Or.inr c42_4)
          · exact kf34 (fun q0 => Or.elim q0 c37_3 c42_4)
    exact k34 n34 (x3, 0, t) h
  refine gm_if_eq C 28 dX12_setMetre_16 (by decide) (fun c16_1 => ?_) (fun c16_1 => ?_)
  · refine gm_iconst C 0 dX12_setMetre_28 (by decide) ?_
    refine gm_sub [2, 3, 4, 5, 1, 0] rfl ?_
    exact k29 _ ((if_neg (fun q0 => q0.1 c16_1)).symm)
  · refine gm_iload C 0 dX12_setMetre_19 rfl ?_
    refine gm_if_eq C 28 dX12_setMetre_21 (by decide) (fun c21_2 => ?_) (fun c21_2 => ?_)
    · refine gm_iconst C 0 dX12_setMetre_28 (by decide) ?_
      refine gm_sub [2, 3, 4, 5, 1, 0] rfl ?_
      exact k29 _ ((if_neg (fun q0 => (fun q1 => q1 c21_2) q0.2)).symm)
    · refine gm_iconst C 1 dX12_setMetre_24 (by decide) ?_
      refine gm_goto C 29 dX12_setMetre_25 (by decide) ?_
      refine gm_sub [2, 3, 4, 5, 1, 0] rfl ?_
      exact k29 _ ((if_pos ⟨c16_1, c21_2⟩).symm)
def w_setTempo (a1 a2 : Int32) (t : MS) (Q : Int32 → MS → Prop) : Prop := ∀ x1 : Int32, x1 = (if (a2 = (-1)) ∨ (¬ ((v_in a2 30 240) = 0)) then 1 else 0) → w_goes (v_isBar a1 t) x1 1 t (fun r2 t2 => ((r2 = 0) → Q 0 t2) ∧ (¬ (r2 = 0) → (mIn 3 a1) ∧ ∀ x4 : Int32, x4 = (mgA t2 3 a1) → (mIn 3 a1) ∧ ∀ t6 : MS, t6 = msA t2 3 a1 a2 → Q x4 t6))
set_option maxRecDepth 20000 in
set_option maxHeartbeats 2000000 in
theorem c_setTempo (l : Launch) (D : va_G) (cI cZ : ClassId) (mo : Nat) (ad : Nat → Nat) (a1 a2 : Int32) (t : MS) (Q : Int32 → MS → Prop) (h : w_setTempo a1 a2 t Q) : MetM l yX12_setTempo cX12_setTempo 4 (some .int) 2 [.ref mo, .int a1, .int a2] (pI Q) D cI cZ mo ad t := by
  unfold w_setTempo at h
  refine gm_start (by decide) rfl (Nat.le_of_ble_eq_true rfl) (fun p e s m args below meth c C E => ?_)
  refine gm_aload C 0 dX12_setTempo_0 rfl ?_
  refine gm_aload C 0 dX12_setTempo_1 rfl ?_
  refine gm_iloadn C 1 1 dX12_setTempo_2 rfl rfl ?_
  refine gm_callV C (y := yX12_isBar) (as := [.int a1]) rfl (by decide) (by decide) (c_isBar l D cI cZ mo ad a1 t) hy_isBar rfl wl_143 cu_isBar dX12_setTempo_3 (Nat.le_of_ble_eq_true rfl) (kP ?_)
  refine gm_iloadn C 2 2 dX12_setTempo_6 rfl rfl ?_
  refine gm_iconst C (-1) dX12_setTempo_7 (by decide) ?_
  have k28 : ∀ x1 : Int32, x1 = (if (a2 = (-1)) ∨ (¬ ((v_in a2 30 240) = 0)) then 1 else 0) → GM p l e (rmD 2) s m args below meth c 4 D cI cZ mo ad (gm_Q below D cI cZ mo ad (pI Q t) args s) t 28 [(0, .ref mo), (1, .int a1), (2, .int a2)] [.int x1, .int (v_isBar a1 t), .ref mo] := by
    intro x1 ex1
    have h := h x1 ex1
    refine gm_iconst C 1 dX12_setTempo_28 (by decide) ?_
    refine gm_callV C (y := yX12_goes) (as := [.int (v_isBar a1 t), .int x1, .int 1]) rfl (by decide) (by decide) (c_goes l D cI cZ mo ad (v_isBar a1 t) x1 1 t _ h) hy_goes rfl wl_165 cu_goes dX12_setTempo_29 (Nat.le_of_ble_eq_true rfl) (kI (fun r2 t2 h => ?_))
    refine gm_if_ne C 37 dX12_setTempo_32 (by decide) (fun c32_3 => ?_) (fun c32_3 => ?_)
    · have h := h.2 c32_3
      refine gm_aload C 0 dX12_setTempo_37 rfl ?_
      refine gm_getA C 3 (by decide) rfl wf_16 rfl dX12_setTempo_38 ?_
      refine gm_iloadn C 1 1 dX12_setTempo_41 rfl rfl ?_
      obtain ⟨g3, h⟩ := h
      refine gm_iald C 3 (by decide) rfl g3 dX12_setTempo_42 ?_
      refine gm_nameI (fun x4 ex4 => ?_)
      have h := h x4 ex4
      refine gm_istoren C 3 [(3, .int x4), (0, .ref mo), (1, .int a1), (2, .int a2)] dX12_setTempo_43 rfl (by decide) rfl ?_
      refine gm_aload C 1 dX12_setTempo_44 rfl ?_
      refine gm_getA C 3 (by decide) rfl wf_16 rfl dX12_setTempo_45 ?_
      refine gm_iloadn C 2 1 dX12_setTempo_48 rfl rfl ?_
      refine gm_iloadn C 3 2 dX12_setTempo_49 rfl rfl ?_
      obtain ⟨g5, h⟩ := h
      refine gm_iast C 3 (by decide) rfl g5 dX12_setTempo_50 ?_
      refine gm_nameT (fun t6 et6 => ?_)
      have h := h t6 et6
      refine gm_iloadn C 0 3 dX12_setTempo_51 rfl rfl ?_
      exact gm_iret C E dX12_setTempo_52 ⟨_, rfl, h⟩
    · have h := h.1 c32_3
      refine gm_iconst C 0 dX12_setTempo_35 (by decide) ?_
      exact gm_iret C E dX12_setTempo_36 ⟨_, rfl, h⟩
  refine gm_icmp_eq C 23 dX12_setTempo_8 (by decide) (fun c8_1 => ?_) (fun c8_1 => ?_)
  · refine gm_iconst C 1 dX12_setTempo_23 (by decide) ?_
    refine gm_goto C 28 dX12_setTempo_24 (by decide) ?_
    exact k28 _ ((if_pos (Or.inl c8_1)).symm)
  · refine gm_iloadn C 2 2 dX12_setTempo_11 rfl rfl ?_
    refine gm_bipush C 30 dX12_setTempo_12 (by decide) ?_
    refine gm_sipush C 240 dX12_setTempo_14 (by decide) ?_
    refine gm_callS C (y := yX12_in) (as := [.int a2, .int 30, .int 240]) rfl (by decide) (by decide) (c_in l D cI cZ mo ad a2 30 240 t) hy_in rfl wl_135 cu_in dX12_setTempo_17 (Nat.le_of_ble_eq_true rfl) (kP ?_)
    refine gm_if_eq C 27 dX12_setTempo_20 (by decide) (fun c20_2 => ?_) (fun c20_2 => ?_)
    · refine gm_iconst C 0 dX12_setTempo_27 (by decide) ?_
      exact k28 _ ((if_neg (fun q0 => Or.elim q0 c8_1 (fun q1 => q1 c20_2))).symm)
    · refine gm_iconst C 1 dX12_setTempo_23 (by decide) ?_
      refine gm_goto C 28 dX12_setTempo_24 (by decide) ?_
      exact k28 _ ((if_pos (Or.inr c20_2)).symm)
def w_bars (t : MS) (Q : Int32 → MS → Prop) : Prop := w_tells (mgI t 0) t (fun r1 t1 => Q r1 t1)
set_option maxRecDepth 20000 in
set_option maxHeartbeats 2000000 in
theorem c_bars (l : Launch) (D : va_G) (cI cZ : ClassId) (mo : Nat) (ad : Nat → Nat) (t : MS) (Q : Int32 → MS → Prop) (h : w_bars t Q) : MetM l yX12_bars cX12_bars 1 (some .int) 1 [.ref mo] (pI Q) D cI cZ mo ad t := by
  unfold w_bars at h
  refine gm_start (by decide) rfl (Nat.le_of_ble_eq_true rfl) (fun p e s m args below meth c C E => ?_)
  refine gm_aload C 0 dX12_bars_0 rfl ?_
  refine gm_aload C 0 dX12_bars_1 rfl ?_
  refine gm_getI C 0 (by decide) rfl wf_132 rfl dX12_bars_2 ?_
  refine gm_callV C (y := yX12_tells) (as := [.int (mgI t 0)]) rfl (by decide) (by decide) (c_tells l D cI cZ mo ad (mgI t 0) t _ h) hy_tells rfl wl_175 cu_tells dX12_bars_5 (Nat.le_of_ble_eq_true rfl) (kI (fun r1 t1 h => ?_))
  exact gm_iret C E dX12_bars_8 ⟨_, rfl, h⟩
def w_length (a1 : Int32) (t : MS) (Q : Int32 → MS → Prop) : Prop := w_goes (v_isBar a1 t) 1 1 t (fun r1 t1 => ((¬ (r1 = 0)) → d_lengthOf a1 t1) ∧ ∀ x2 : Int32, x2 = (if r1 = 0 then 0 else (v_lengthOf a1 t1)) → Q x2 t1)
set_option maxRecDepth 20000 in
set_option maxHeartbeats 2000000 in
theorem c_length (l : Launch) (D : va_G) (cI cZ : ClassId) (mo : Nat) (ad : Nat → Nat) (a1 : Int32) (t : MS) (Q : Int32 → MS → Prop) (h : w_length a1 t Q) : MetM l yX12_length cX12_length 2 (some .int) 2 [.ref mo, .int a1] (pI Q) D cI cZ mo ad t := by
  unfold w_length at h
  refine gm_start (by decide) rfl (Nat.le_of_ble_eq_true rfl) (fun p e s m args below meth c C E => ?_)
  refine gm_aload C 0 dX12_length_0 rfl ?_
  refine gm_aload C 0 dX12_length_1 rfl ?_
  refine gm_iloadn C 1 1 dX12_length_2 rfl rfl ?_
  refine gm_callV C (y := yX12_isBar) (as := [.int a1]) rfl (by decide) (by decide) (c_isBar l D cI cZ mo ad a1 t) hy_isBar rfl wl_143 cu_isBar dX12_length_3 (Nat.le_of_ble_eq_true rfl) (kP ?_)
  refine gm_iconst C 1 dX12_length_6 (by decide) ?_
  refine gm_iconst C 1 dX12_length_7 (by decide) ?_
  refine gm_callV C (y := yX12_goes) (as := [.int (v_isBar a1 t), .int 1, .int 1]) rfl (by decide) (by decide) (c_goes l D cI cZ mo ad (v_isBar a1 t) 1 1 t _ h) hy_goes rfl wl_165 cu_goes dX12_length_8 (Nat.le_of_ble_eq_true rfl) (kI (fun r1 t1 h => ?_))
  obtain ⟨g3, h⟩ := h
  have k23 : ∀ x2 : Int32, x2 = (if r1 = 0 then 0 else (v_lengthOf a1 t1)) → GM p l e (rmD 2) s m args below meth c 2 D cI cZ mo ad (gm_Q below D cI cZ mo ad (pI Q t) args s) t1 23 [] [.int x2] := by
    intro x2 ex2
    have h := h x2 ex2
    exact gm_iret C E dX12_length_23 ⟨_, rfl, h⟩
  refine gm_if_eq C 22 dX12_length_11 (by decide) (fun c11_1 => ?_) (fun c11_1 => ?_)
  · refine gm_iconst C 0 dX12_length_22 (by decide) ?_
    refine gm_sub [] rfl ?_
    exact k23 _ ((if_pos c11_1).symm)
  · refine gm_aload C 0 dX12_length_14 rfl ?_
    refine gm_iloadn C 1 1 dX12_length_15 rfl rfl ?_
    refine gm_callV C (y := yX12_lengthOf) (as := [.int a1]) rfl (by decide) (by decide) (c_lengthOf l D cI cZ mo ad a1 t1 (g3 c11_1)) hy_lengthOf rfl wl_172 cu_lengthOf dX12_length_16 (Nat.le_of_ble_eq_true rfl) (kP ?_)
    refine gm_goto C 23 dX12_length_19 (by decide) ?_
    refine gm_sub [] rfl ?_
    exact k23 _ ((if_neg c11_1).symm)
def w_tempo (a1 : Int32) (t : MS) (Q : Int32 → MS → Prop) : Prop := w_goes (v_isBar a1 t) 1 1 t (fun r1 t1 => ∃ J23 : Int32 → MS → Prop, (∀ x2 : Int32, ∀ t3 : MS, J23 x2 t3 → (Q x2 t3)) ∧ (((r1 = 0) → J23 0 t1) ∧ (¬ (r1 = 0) → w_tempoOf a1 t1 (fun r4 t4 => J23 r4 t4))))
set_option maxRecDepth 20000 in
set_option maxHeartbeats 2000000 in
theorem c_tempo (l : Launch) (D : va_G) (cI cZ : ClassId) (mo : Nat) (ad : Nat → Nat) (a1 : Int32) (t : MS) (Q : Int32 → MS → Prop) (h : w_tempo a1 t Q) : MetM l yX12_tempo cX12_tempo 2 (some .int) 2 [.ref mo, .int a1] (pI Q) D cI cZ mo ad t := by
  unfold w_tempo at h
  refine gm_start (by decide) rfl (Nat.le_of_ble_eq_true rfl) (fun p e s m args below meth c C E => ?_)
  refine gm_aload C 0 dX12_tempo_0 rfl ?_
  refine gm_aload C 0 dX12_tempo_1 rfl ?_
  refine gm_iloadn C 1 1 dX12_tempo_2 rfl rfl ?_
  refine gm_callV C (y := yX12_isBar) (as := [.int a1]) rfl (by decide) (by decide) (c_isBar l D cI cZ mo ad a1 t) hy_isBar rfl wl_143 cu_isBar dX12_tempo_3 (Nat.le_of_ble_eq_true rfl) (kP ?_)
  refine gm_iconst C 1 dX12_tempo_6 (by decide) ?_
  refine gm_iconst C 1 dX12_tempo_7 (by decide) ?_
  refine gm_callV C (y := yX12_goes) (as := [.int (v_isBar a1 t), .int 1, .int 1]) rfl (by decide) (by decide) (c_goes l D cI cZ mo ad (v_isBar a1 t) 1 1 t _ h) hy_goes rfl wl_165 cu_goes dX12_tempo_8 (Nat.le_of_ble_eq_true rfl) (kI (fun r1 t1 h => ?_))
  obtain ⟨J23, hJ23, h⟩ := h
  have k23 : ∀ x2 : Int32, ∀ t3 : MS, J23 x2 t3 → GM p l e (rmD 2) s m args below meth c 2 D cI cZ mo ad (gm_Q below D cI cZ mo ad (pI Q t) args s) t3 23 [] [.int x2] := by
    intro x2 t3 h
    have h := hJ23 x2 t3 h
    exact gm_iret C E dX12_tempo_23 ⟨_, rfl, h⟩
  refine gm_if_eq C 22 dX12_tempo_11 (by decide) (fun c11_1 => ?_) (fun c11_1 => ?_)
  · have h := h.1 c11_1
    refine gm_iconst C 0 dX12_tempo_22 (by decide) ?_
    refine gm_sub [] rfl ?_
    exact k23 0 t1 h
  · have h := h.2 c11_1
    refine gm_aload C 0 dX12_tempo_14 rfl ?_
    refine gm_iloadn C 1 1 dX12_tempo_15 rfl rfl ?_
    refine gm_callV C (y := yX12_tempoOf) (as := [.int a1]) rfl (by decide) (by decide) (c_tempoOf l D cI cZ mo ad a1 t1 _ h) hy_tempoOf rfl wl_147 cu_tempoOf dX12_tempo_16 (Nat.le_of_ble_eq_true rfl) (kI (fun r4 t4 h => ?_))
    refine gm_goto C 23 dX12_tempo_19 (by decide) ?_
    refine gm_sub [] rfl ?_
    exact k23 r4 t4 h
def w_time (a1 : Int32) (t : MS) (Q : Int32 → MS → Prop) : Prop := w_goes (v_isBar a1 t) 1 1 t (fun r1 t1 => ∃ J28 : Int32 → MS → Prop, (∀ x2 : Int32, ∀ t3 : MS, J28 x2 t3 → (Q x2 t3)) ∧ (((r1 = 0) → J28 0 t1) ∧ (¬ (r1 = 0) → (d_lengthOf a1 t1) ∧ w_lasts a1 (v_lengthOf a1 t1) t1 (fun r5 t5 => J28 r5 t5))))
set_option maxRecDepth 20000 in
set_option maxHeartbeats 2000000 in
theorem c_time (l : Launch) (D : va_G) (cI cZ : ClassId) (mo : Nat) (ad : Nat → Nat) (a1 : Int32) (t : MS) (Q : Int32 → MS → Prop) (h : w_time a1 t Q) : MetM l yX12_time cX12_time 2 (some .int) 2 [.ref mo, .int a1] (pI Q) D cI cZ mo ad t := by
  unfold w_time at h
  refine gm_start (by decide) rfl (Nat.le_of_ble_eq_true rfl) (fun p e s m args below meth c C E => ?_)
  refine gm_aload C 0 dX12_time_0 rfl ?_
  refine gm_aload C 0 dX12_time_1 rfl ?_
  refine gm_iloadn C 1 1 dX12_time_2 rfl rfl ?_
  refine gm_callV C (y := yX12_isBar) (as := [.int a1]) rfl (by decide) (by decide) (c_isBar l D cI cZ mo ad a1 t) hy_isBar rfl wl_143 cu_isBar dX12_time_3 (Nat.le_of_ble_eq_true rfl) (kP ?_)
  refine gm_iconst C 1 dX12_time_6 (by decide) ?_
  refine gm_iconst C 1 dX12_time_7 (by decide) ?_
  refine gm_callV C (y := yX12_goes) (as := [.int (v_isBar a1 t), .int 1, .int 1]) rfl (by decide) (by decide) (c_goes l D cI cZ mo ad (v_isBar a1 t) 1 1 t _ h) hy_goes rfl wl_165 cu_goes dX12_time_8 (Nat.le_of_ble_eq_true rfl) (kI (fun r1 t1 h => ?_))
  obtain ⟨J28, hJ28, h⟩ := h
  have k28 : ∀ x2 : Int32, ∀ t3 : MS, J28 x2 t3 → GM p l e (rmD 2) s m args below meth c 2 D cI cZ mo ad (gm_Q below D cI cZ mo ad (pI Q t) args s) t3 28 [] [.int x2] := by
    intro x2 t3 h
    have h := hJ28 x2 t3 h
    exact gm_iret C E dX12_time_28 ⟨_, rfl, h⟩
  refine gm_if_eq C 27 dX12_time_11 (by decide) (fun c11_1 => ?_) (fun c11_1 => ?_)
  · have h := h.1 c11_1
    refine gm_iconst C 0 dX12_time_27 (by decide) ?_
    refine gm_sub [] rfl ?_
    exact k28 0 t1 h
  · have h := h.2 c11_1
    refine gm_aload C 0 dX12_time_14 rfl ?_
    refine gm_iloadn C 1 1 dX12_time_15 rfl rfl ?_
    refine gm_aload C 0 dX12_time_16 rfl ?_
    refine gm_iloadn C 1 1 dX12_time_17 rfl rfl ?_
    obtain ⟨g4, h⟩ := h
    refine gm_callV C (y := yX12_lengthOf) (as := [.int a1]) rfl (by decide) (by decide) (c_lengthOf l D cI cZ mo ad a1 t1 g4) hy_lengthOf rfl wl_172 cu_lengthOf dX12_time_18 (Nat.le_of_ble_eq_true rfl) (kP ?_)
    refine gm_callV C (y := yX12_lasts) (as := [.int a1, .int (v_lengthOf a1 t1)]) rfl (by decide) (by decide) (c_lasts l D cI cZ mo ad a1 (v_lengthOf a1 t1) t1 _ h) hy_lasts rfl wl_178 cu_lasts dX12_time_21 (Nat.le_of_ble_eq_true rfl) (kI (fun r5 t5 h => ?_))
    refine gm_goto C 28 dX12_time_24 (by decide) ?_
    refine gm_sub [] rfl ?_
    exact k28 r5 t5 h
def v_isWritten (a1 a2 a3 : Int32) : Int32 := (if (a2 = 0) ∨ (¬ ((v_in (a2 + a3) 1 127) = 0)) then 1 else 0)
theorem vb_isWritten {a1 a2 a3 : Int32} : gb (v_isWritten a1 a2 a3) := by unfold v_isWritten; split <;> first | exact Or.inr rfl | exact Or.inl rfl
set_option maxRecDepth 20000 in
theorem c_isWritten (l : Launch) (D : va_G) (cI cZ : ClassId) (mo : Nat) (ad : Nat → Nat) (a1 a2 a3 : Int32) (t : MS) : MetM l yX12_isWritten cX12_isWritten 4 (some .boolean) 1 [.ref mo, .int a1, .int a2, .int a3] (pI (fun r t' => (v_isWritten a1 a2 a3) = r ∧ t = t')) D cI cZ mo ad t := by
  refine gm_start (by decide) rfl (Nat.le_of_ble_eq_true rfl) (fun p e s m args below meth c C E => ?_)
  refine gm_iloadn C 2 2 dX12_isWritten_0 rfl rfl ?_
  refine gm_if_eq C 16 dX12_isWritten_1 (by decide) (fun c1_1 => ?_) (fun c1_1 => ?_)
  · refine gm_iconst C 1 dX12_isWritten_16 (by decide) ?_
    refine gm_goto C 21 dX12_isWritten_17 (by decide) ?_
    exact gm_zret C E (Or.inr rfl) dX12_isWritten_21 ⟨_, rfl, (Eq.symm ((if_pos (Or.inl c1_1)).symm)), rfl⟩
  · refine gm_iloadn C 2 2 dX12_isWritten_4 rfl rfl ?_
    refine gm_iloadn C 3 3 dX12_isWritten_5 rfl rfl ?_
    refine gm_iadd C dX12_isWritten_6 ?_
    refine gm_iconst C 1 dX12_isWritten_7 (by decide) ?_
    refine gm_bipush C 127 dX12_isWritten_8 (by decide) ?_
    refine gm_callS C (y := yX12_in) (as := [.int (a2 + a3), .int 1, .int 127]) rfl (by decide) (by decide) (c_in l D cI cZ mo ad (a2 + a3) 1 127 t) hy_in rfl wl_135 cu_in dX12_isWritten_10 (Nat.le_of_ble_eq_true rfl) (kP ?_)
    refine gm_if_eq C 20 dX12_isWritten_13 (by decide) (fun c13_2 => ?_) (fun c13_2 => ?_)
    · refine gm_iconst C 0 dX12_isWritten_20 (by decide) ?_
      exact gm_zret C E (Or.inl rfl) dX12_isWritten_21 ⟨_, rfl, (Eq.symm ((if_neg (fun q0 => Or.elim q0 c1_1 (fun q1 => q1 c13_2))).symm)), rfl⟩
    · refine gm_iconst C 1 dX12_isWritten_16 (by decide) ?_
      refine gm_goto C 21 dX12_isWritten_17 (by decide) ?_
      exact gm_zret C E (Or.inr rfl) dX12_isWritten_21 ⟨_, rfl, (Eq.symm ((if_pos (Or.inr c13_2)).symm)), rfl⟩
def w_copies (a1 a2 : Int32) (t : MS) (Q : MS → Prop) : Prop := (mIn 8 a1) ∧ (mIn 8 a2) ∧ ∀ t3 : MS, t3 = msA t 8 a2 (mgA t 8 a1) → (mIn 9 a1) ∧ (mIn 9 a2) ∧ ∀ t6 : MS, t6 = msA t3 9 a2 (mgA t3 9 a1) → (mIn 10 a1) ∧ (mIn 10 a2) ∧ ∀ t9 : MS, t9 = msA t6 10 a2 (mgA t6 10 a1) → (mIn 11 a1) ∧ (mIn 11 a2) ∧ ∀ t12 : MS, t12 = msA t9 11 a2 (mgA t9 11 a1) → (mIn 12 a1) ∧ (mIn 12 a2) ∧ (gb (mgA t12 12 a1)) ∧ ∀ t16 : MS, t16 = msA t12 12 a2 (mgA t12 12 a1) → Q t16
set_option maxRecDepth 20000 in
set_option maxHeartbeats 2000000 in
theorem c_copies (l : Launch) (D : va_G) (cI cZ : ClassId) (mo : Nat) (ad : Nat → Nat) (a1 a2 : Int32) (t : MS) (Q : MS → Prop) (h : w_copies a1 a2 t Q) : MetM l yX12_copies cX12_copies 3 none 0 [.ref mo, .int a1, .int a2] (pV Q) D cI cZ mo ad t := by
  unfold w_copies at h
  refine gm_start (by decide) rfl (Nat.le_of_ble_eq_true rfl) (fun p e s m args below meth c C E => ?_)
  refine gm_aload C 0 dX12_copies_0 rfl ?_
  refine gm_getA C 8 (by decide) rfl wf_32 rfl dX12_copies_1 ?_
  refine gm_iloadn C 2 2 dX12_copies_4 rfl rfl ?_
  refine gm_aload C 0 dX12_copies_5 rfl ?_
  refine gm_getA C 8 (by decide) rfl wf_32 rfl dX12_copies_6 ?_
  refine gm_iloadn C 1 1 dX12_copies_9 rfl rfl ?_
  obtain ⟨g1, h⟩ := h
  refine gm_iald C 8 (by decide) rfl g1 dX12_copies_10 ?_
  obtain ⟨g2, h⟩ := h
  refine gm_iast C 8 (by decide) rfl g2 dX12_copies_11 ?_
  refine gm_nameT (fun t3 et3 => ?_)
  have h := h t3 et3
  refine gm_aload C 0 dX12_copies_12 rfl ?_
  refine gm_getA C 9 (by decide) rfl wf_35 rfl dX12_copies_13 ?_
  refine gm_iloadn C 2 2 dX12_copies_16 rfl rfl ?_
  refine gm_aload C 0 dX12_copies_17 rfl ?_
  refine gm_getA C 9 (by decide) rfl wf_35 rfl dX12_copies_18 ?_
  refine gm_iloadn C 1 1 dX12_copies_21 rfl rfl ?_
  obtain ⟨g4, h⟩ := h
  refine gm_iald C 9 (by decide) rfl g4 dX12_copies_22 ?_
  obtain ⟨g5, h⟩ := h
  refine gm_iast C 9 (by decide) rfl g5 dX12_copies_23 ?_
  refine gm_nameT (fun t6 et6 => ?_)
  have h := h t6 et6
  refine gm_aload C 0 dX12_copies_24 rfl ?_
  refine gm_getA C 10 (by decide) rfl wf_38 rfl dX12_copies_25 ?_
  refine gm_iloadn C 2 2 dX12_copies_28 rfl rfl ?_
  refine gm_aload C 0 dX12_copies_29 rfl ?_
  refine gm_getA C 10 (by decide) rfl wf_38 rfl dX12_copies_30 ?_
  refine gm_iloadn C 1 1 dX12_copies_33 rfl rfl ?_
  obtain ⟨g7, h⟩ := h
  refine gm_iald C 10 (by decide) rfl g7 dX12_copies_34 ?_
  obtain ⟨g8, h⟩ := h
  refine gm_iast C 10 (by decide) rfl g8 dX12_copies_35 ?_
  refine gm_nameT (fun t9 et9 => ?_)
  have h := h t9 et9
  refine gm_aload C 0 dX12_copies_36 rfl ?_
  refine gm_getA C 11 (by decide) rfl wf_41 rfl dX12_copies_37 ?_
  refine gm_iloadn C 2 2 dX12_copies_40 rfl rfl ?_
  refine gm_aload C 0 dX12_copies_41 rfl ?_
  refine gm_getA C 11 (by decide) rfl wf_41 rfl dX12_copies_42 ?_
  refine gm_iloadn C 1 1 dX12_copies_45 rfl rfl ?_
  obtain ⟨g10, h⟩ := h
  refine gm_iald C 11 (by decide) rfl g10 dX12_copies_46 ?_
  obtain ⟨g11, h⟩ := h
  refine gm_iast C 11 (by decide) rfl g11 dX12_copies_47 ?_
  refine gm_nameT (fun t12 et12 => ?_)
  have h := h t12 et12
  refine gm_aload C 0 dX12_copies_48 rfl ?_
  refine gm_getA C 12 (by decide) rfl wf_44 rfl dX12_copies_49 ?_
  refine gm_iloadn C 2 2 dX12_copies_52 rfl rfl ?_
  refine gm_aload C 0 dX12_copies_53 rfl ?_
  refine gm_getA C 12 (by decide) rfl wf_44 rfl dX12_copies_54 ?_
  refine gm_iloadn C 1 1 dX12_copies_57 rfl rfl ?_
  obtain ⟨g13, h⟩ := h
  refine gm_bald C 12 (by decide) rfl g13 dX12_copies_58 ?_
  obtain ⟨g14, h⟩ := h
  obtain ⟨g15, h⟩ := h
  refine gm_bast C 12 (by decide) rfl g14 g15 dX12_copies_59 ?_
  refine gm_nameT (fun t16 et16 => ?_)
  have h := h t16 et16
  exact gm_vret C E dX12_copies_60 ⟨rfl, h⟩
def w_moves_L3 (a1 : Int32) (a2 : Int32) (a3 : Int32) (a4 : Int32) (Q : MS → Prop) (K3 : (Int32 × MS) → Prop) (z3 : Int32 × MS) : Prop := (((mgI z3.2 14) ≤ z3.1) → Q z3.2) ∧ (¬ ((mgI z3.2 14) ≤ z3.1) → (mIn 17 z3.1) ∧ (mIn 15 z3.1) ∧ (((mgA z3.2 15 z3.1) = a1) → mIn 16 z3.1) ∧ (((mgA z3.2 15 z3.1) = a1) → ((mgA z3.2 16 z3.1) = a2) → mIn 17 z3.1) ∧ ∀ x3 : Int32, x3 = (if (¬ ((mgA z3.2 15 z3.1) = a1)) ∨ ((¬ ((mgA z3.2 16 z3.1) = a2)) ∨ ((mgA z3.2 17 z3.1) < a3)) then 0 else a4) → (mIn 17 z3.1) ∧ ∀ t7 : MS, t7 = msA z3.2 17 z3.1 ((mgA z3.2 17 z3.1) + x3) → (mIn 19 z3.1) ∧ (mIn 15 z3.1) ∧ (((mgA t7 15 z3.1) = a1) → mIn 18 z3.1) ∧ (((mgA t7 15 z3.1) = a1) → ((mgA t7 18 z3.1) = a2) → mIn 19 z3.1) ∧ ∀ x10 : Int32, x10 = (if (¬ ((mgA t7 15 z3.1) = a1)) ∨ ((¬ ((mgA t7 18 z3.1) = a2)) ∨ ((mgA t7 19 z3.1) < a3)) then 0 else a4) → (mIn 19 z3.1) ∧ ∀ t14 : MS, t14 = msA t7 19 z3.1 ((mgA t7 19 z3.1) + x10) → K3 ((z3.1 + 1), t14))
def w_moves (a1 a2 a3 a4 : Int32) (t : MS) (Q : MS → Prop) : Prop := ∃ n, lp (w_moves_L3 a1 a2 a3 a4 Q) n (0, t)
set_option maxRecDepth 20000 in
set_option maxHeartbeats 2000000 in
theorem c_moves (l : Launch) (D : va_G) (cI cZ : ClassId) (mo : Nat) (ad : Nat → Nat) (a1 a2 a3 a4 : Int32) (t : MS) (Q : MS → Prop) (h : w_moves a1 a2 a3 a4 t Q) : MetM l yX12_moves cX12_moves 6 none 0 [.ref mo, .int a1, .int a2, .int a3, .int a4] (pV Q) D cI cZ mo ad t := by
  unfold w_moves at h
  refine gm_start (by decide) rfl (Nat.le_of_ble_eq_true rfl) (fun p e s m args below meth c C E => ?_)
  refine gm_iconst C 0 dX12_moves_0 (by decide) ?_
  refine gm_istore C [(5, .int 0), (0, .ref mo), (1, .int a1), (2, .int a2), (3, .int a3), (4, .int a4)] dX12_moves_1 (by decide) rfl ?_
  refine gm_sub [1, 2, 3, 4, 5, 0] rfl ?_
  obtain ⟨n3, h⟩ := h
  have k3 : ∀ (n3 : Nat) (z3 : Int32 × MS), lp (w_moves_L3 a1 a2 a3 a4 Q) n3 z3 → GM p l e (rmD 0) s m args below meth c 6 D cI cZ mo ad (gm_Q below D cI cZ mo ad (pV Q t) args s) z3.2 3 [(0, .ref mo), (1, .int a1), (2, .int a2), (3, .int a3), (4, .int a4), (5, .int z3.1)] [] := by
    intro n3
    induction n3 with
    | zero => intro z3 h; exact h.elim
    | succ n3 ih3 =>
      intro z3 h
      have h : w_moves_L3 a1 a2 a3 a4 Q (lp (w_moves_L3 a1 a2 a3 a4 Q) n3) z3 := h
      unfold w_moves_L3 at h
      refine gm_iload C 5 dX12_moves_3 rfl ?_
      refine gm_aload C 0 dX12_moves_5 rfl ?_
      refine gm_getI C 14 (by decide) rfl wf_181 rfl dX12_moves_6 ?_
      refine gm_icmp_ge C 116 dX12_moves_9 (by decide) (fun c9_1 => ?_) (fun c9_1 => ?_)
      · have h := h.1 c9_1
        exact gm_vret C E dX12_moves_116 ⟨rfl, h⟩
      · have h := h.2 c9_1
        refine gm_aload C 0 dX12_moves_12 rfl ?_
        refine gm_getA C 17 (by decide) rfl wf_56 rfl dX12_moves_13 ?_
        refine gm_iload C 5 dX12_moves_16 rfl ?_
        refine gm_dup2 C dX12_moves_18 rfl rfl ?_
        obtain ⟨g1, h⟩ := h
        refine gm_iald C 17 (by decide) rfl g1 dX12_moves_19 ?_
        refine gm_aload C 0 dX12_moves_20 rfl ?_
        refine gm_getA C 15 (by decide) rfl wf_50 rfl dX12_moves_21 ?_
        refine gm_iload C 5 dX12_moves_24 rfl ?_
        obtain ⟨g2, h⟩ := h
        refine gm_iald C 15 (by decide) rfl g2 dX12_moves_26 ?_
        refine gm_iloadn C 1 1 dX12_moves_27 rfl rfl ?_
        obtain ⟨g4, h⟩ := h
        obtain ⟨g5, h⟩ := h
        have k59 : ∀ x3 : Int32, x3 = (if (¬ ((mgA z3.2 15 z3.1) = a1)) ∨ ((¬ ((mgA z3.2 16 z3.1) = a2)) ∨ ((mgA z3.2 17 z3.1) < a3)) then 0 else a4) → GM p l e (rmD 0) s m args below meth c 6 D cI cZ mo ad (gm_Q below D cI cZ mo ad (pV Q t) args s) z3.2 59 [(0, .ref mo), (1, .int a1), (2, .int a2), (3, .int a3), (4, .int a4), (5, .int z3.1)] [.int x3, .int (mgA z3.2 17 z3.1), .int z3.1, .ref (ad 17)] := by
          intro x3 ex3
          have h := h x3 ex3
          refine gm_iadd C dX12_moves_59 ?_
          obtain ⟨g6, h⟩ := h
          refine gm_iast C 17 (by decide) rfl g6 dX12_moves_60 ?_
          refine gm_nameT (fun t7 et7 => ?_)
          have h := h t7 et7
          refine gm_aload C 0 dX12_moves_61 rfl ?_
          refine gm_getA C 19 (by decide) rfl wf_62 rfl dX12_moves_62 ?_
          refine gm_iload C 5 dX12_moves_65 rfl ?_
          refine gm_dup2 C dX12_moves_67 rfl rfl ?_
          obtain ⟨g8, h⟩ := h
          refine gm_iald C 19 (by decide) rfl g8 dX12_moves_68 ?_
          refine gm_aload C 0 dX12_moves_69 rfl ?_
          refine gm_getA C 15 (by decide) rfl wf_50 rfl dX12_moves_70 ?_
          refine gm_iload C 5 dX12_moves_73 rfl ?_
          obtain ⟨g9, h⟩ := h
          refine gm_iald C 15 (by decide) rfl g9 dX12_moves_75 ?_
          refine gm_iloadn C 1 1 dX12_moves_76 rfl rfl ?_
          obtain ⟨g11, h⟩ := h
          obtain ⟨g12, h⟩ := h
          have k108 : ∀ x10 : Int32, x10 = (if (¬ ((mgA t7 15 z3.1) = a1)) ∨ ((¬ ((mgA t7 18 z3.1) = a2)) ∨ ((mgA t7 19 z3.1) < a3)) then 0 else a4) → GM p l e (rmD 0) s m args below meth c 6 D cI cZ mo ad (gm_Q below D cI cZ mo ad (pV Q t) args s) t7 108 [(0, .ref mo), (1, .int a1), (2, .int a2), (3, .int a3), (4, .int a4), (5, .int z3.1)] [.int x10, .int (mgA t7 19 z3.1), .int z3.1, .ref (ad 19)] := by
            intro x10 ex10
            have h := h x10 ex10
            refine gm_iadd C dX12_moves_108 ?_
            obtain ⟨g13, h⟩ := h
            refine gm_iast C 19 (by decide) rfl g13 dX12_moves_109 ?_
            refine gm_nameT (fun t14 et14 => ?_)
            have h := h t14 et14
            refine gm_iinc C 5 (z3.1 + 1) [(5, .int (z3.1 + 1)), (0, .ref mo), (1, .int a1), (2, .int a2), (3, .int a3), (4, .int a4)] dX12_moves_110 rfl rfl (by decide) rfl ?_
            refine gm_goto C 3 dX12_moves_113 (by decide) ?_
            refine gm_sub [1, 2, 3, 4, 5, 0] rfl ?_
            have h9 := ih3 ((z3.1 + 1), t14) h
            exact h9
          refine gm_icmp_ne C 107 dX12_moves_77 (by decide) (fun c77_5 => ?_) (fun c77_5 => ?_)
          · refine gm_iconst C 0 dX12_moves_107 (by decide) ?_
            exact k108 _ ((if_pos (Or.inl c77_5)).symm)
          · refine gm_aload C 0 dX12_moves_80 rfl ?_
            refine gm_getA C 18 (by decide) rfl wf_59 rfl dX12_moves_81 ?_
            refine gm_iload C 5 dX12_moves_84 rfl ?_
            refine gm_iald C 18 (by decide) rfl (g11 c77_5) dX12_moves_86 ?_
            refine gm_iloadn C 2 2 dX12_moves_87 rfl rfl ?_
            refine gm_icmp_ne C 107 dX12_moves_88 (by decide) (fun c88_6 => ?_) (fun c88_6 => ?_)
            · refine gm_iconst C 0 dX12_moves_107 (by decide) ?_
              exact k108 _ ((if_pos (Or.inr (Or.inl c88_6))).symm)
            · refine gm_aload C 0 dX12_moves_91 rfl ?_
              refine gm_getA C 19 (by decide) rfl wf_62 rfl dX12_moves_92 ?_
              refine gm_iload C 5 dX12_moves_95 rfl ?_
              refine gm_iald C 19 (by decide) rfl (g12 c77_5 c88_6) dX12_moves_97 ?_
              refine gm_iloadn C 3 3 dX12_moves_98 rfl rfl ?_
              refine gm_icmp_lt C 107 dX12_moves_99 (by decide) (fun c99_7 => ?_) (fun c99_7 => ?_)
              · refine gm_iconst C 0 dX12_moves_107 (by decide) ?_
                exact k108 _ ((if_pos (Or.inr (Or.inr c99_7))).symm)
              · refine gm_iload C 4 dX12_moves_102 rfl ?_
                refine gm_goto C 108 dX12_moves_104 (by decide) ?_
                exact k108 _ ((if_neg (fun q0 => Or.elim q0 (fun r => r c77_5) (fun q1 => Or.elim q1 (fun r => r c88_6) c99_7))).symm)
        refine gm_icmp_ne C 58 dX12_moves_28 (by decide) (fun c28_2 => ?_) (fun c28_2 => ?_)
        · refine gm_iconst C 0 dX12_moves_58 (by decide) ?_
          exact k59 _ ((if_pos (Or.inl c28_2)).symm)
        · refine gm_aload C 0 dX12_moves_31 rfl ?_
          refine gm_getA C 16 (by decide) rfl wf_53 rfl dX12_moves_32 ?_
          refine gm_iload C 5 dX12_moves_35 rfl ?_
          refine gm_iald C 16 (by decide) rfl (g4 c28_2) dX12_moves_37 ?_
          refine gm_iloadn C 2 2 dX12_moves_38 rfl rfl ?_
          refine gm_icmp_ne C 58 dX12_moves_39 (by decide) (fun c39_3 => ?_) (fun c39_3 => ?_)
          · refine gm_iconst C 0 dX12_moves_58 (by decide) ?_
            exact k59 _ ((if_pos (Or.inr (Or.inl c39_3))).symm)
          · refine gm_aload C 0 dX12_moves_42 rfl ?_
            refine gm_getA C 17 (by decide) rfl wf_56 rfl dX12_moves_43 ?_
            refine gm_iload C 5 dX12_moves_46 rfl ?_
            refine gm_iald C 17 (by decide) rfl (g5 c28_2 c39_3) dX12_moves_48 ?_
            refine gm_iloadn C 3 3 dX12_moves_49 rfl rfl ?_
            refine gm_icmp_lt C 58 dX12_moves_50 (by decide) (fun c50_4 => ?_) (fun c50_4 => ?_)
            · refine gm_iconst C 0 dX12_moves_58 (by decide) ?_
              exact k59 _ ((if_pos (Or.inr (Or.inr c50_4))).symm)
            · refine gm_iload C 4 dX12_moves_53 rfl ?_
              refine gm_goto C 59 dX12_moves_55 (by decide) ?_
              exact k59 _ ((if_neg (fun q0 => Or.elim q0 (fun r => r c28_2) (fun q1 => Or.elim q1 (fun r => r c39_3) c50_4))).symm)
  exact k3 n3 (0, t) h
def w_insert_L232 (a1 : Int32) (a2 : Int32) (a3 : Int32) (a4 : Int32) (a5 : Int32) (a6 : Int32) (Q : Int32 → MS → Prop) (K232 : (Int32 × MS) → Prop) (z232 : Int32 × MS) : Prop := ((z232.1 ≤ a3) → w_moves a1 a2 a3 1 z232.2 (fun t11 => ∀ x12 : Int32, x12 = (v_place a1 a2 a3) → (mIn 8 x12) ∧ ∀ t14 : MS, t14 = msA t11 8 x12 a4 → (mIn 9 x12) ∧ ∀ t16 : MS, t16 = msA t14 9 x12 a5 → (mIn 10 x12) ∧ ∀ t18 : MS, t18 = msA t16 10 x12 a6 → (mIn 11 x12) ∧ ∀ t20 : MS, t20 = msA t18 11 x12 (-1) → (mIn 12 x12) ∧ ∀ t22 : MS, t22 = msA t20 12 x12 0 → (mIn 6 (v_at a1 a2)) ∧ (mIn 6 (v_at a1 a2)) ∧ ∀ t25 : MS, t25 = msA t22 6 (v_at a1 a2) ((mgA t22 6 (v_at a1 a2)) + 1) → (d_lengthOf a2 t25) ∧ w_allTicks a1 a2 t25 (fun r27 t27 => Q ((v_lengthOf a2 t25) - r27) t27))) ∧ (¬ (z232.1 ≤ a3) → w_copies (v_place a1 a2 (z232.1 - 1)) (v_place a1 a2 z232.1) z232.2 (fun t28 => K232 ((z232.1 + (-1)), t28)))
def w_insert (a1 a2 a3 a4 a5 a6 : Int32) (t : MS) (Q : Int32 → MS → Prop) : Prop := ∀ x1 : Int32, x1 = (if (¬ ((v_isVoice a1) = 0)) ∧ ((¬ ((v_in a4 0 127) = 0)) ∧ ((¬ ((v_in a5 0 5) = 0)) ∧ ((¬ ((v_in a6 0 2) = 0)) ∧ ((¬ (a5 = 5)) ∨ (¬ (a6 = 1)))))) then 1 else 0) → ((¬ (x1 = 0)) → (¬ ((v_isBar a2 t) = 0)) → mIn 6 (v_at a1 a2)) ∧ ∀ x2 : Int32, x2 = (if (¬ (x1 = 0)) ∧ ((¬ ((v_isBar a2 t) = 0)) ∧ (¬ ((v_in a3 0 (mgA t 6 (v_at a1 a2))) = 0))) then 1 else 0) → ∀ x4 : Int32, x4 = (if x1 = 0 then 0 else ((96 : Int32) >>> (a5 &&& 31))) → ∀ x5 : Int32, x5 = (if a6 = 1 then ((x4 * 3) / 2) else (if a6 = 2 then ((x4 * 2) / 3) else x4)) → ∃ J203 : Int32 → MS → Prop, (∀ x6 : Int32, ∀ t7 : MS, J203 x6 t7 → (w_goes x1 x2 x6 t7 (fun r8 t8 => ((r8 = 0) → Q 0 t8) ∧ (¬ (r8 = 0) → (mIn 6 (v_at a1 a2)) ∧ ∀ x10 : Int32, x10 = (mgA t8 6 (v_at a1 a2)) → ∃ n, lp (w_insert_L232 a1 a2 a3 a4 a5 a6 Q) n (x10, t8))))) ∧ ∃ J202 : MS → Prop, (∀ t29 : MS, J202 t29 → (J203 0 t29)) ∧ (((¬ (x2 = 0)) → mIn 6 (v_at a1 a2)) ∧ (((x2 = 0) ∨ (16 ≤ (mgA t 6 (v_at a1 a2)))) → J202 t) ∧ (¬ ((x2 = 0) ∨ (16 ≤ (mgA t 6 (v_at a1 a2)))) → w_allTicks a1 a2 t (fun r31 t31 => (d_lengthOf a2 t31) ∧ ((¬ ((v_lengthOf a2 t31) < (r31 + x5))) → mIn 13 a1) ∧ ((((v_lengthOf a2 t31) < (r31 + x5)) ∨ ((v_isWritten a1 a4 (mgA t31 13 a1)) = 0)) → J202 t31) ∧ (¬ (((v_lengthOf a2 t31) < (r31 + x5)) ∨ ((v_isWritten a1 a4 (mgA t31 13 a1)) = 0)) → J203 1 t31))))
set_option maxRecDepth 20000 in
set_option maxHeartbeats 2000000 in
theorem c_insert (l : Launch) (D : va_G) (cI cZ : ClassId) (mo : Nat) (ad : Nat → Nat) (a1 a2 a3 a4 a5 a6 : Int32) (t : MS) (Q : Int32 → MS → Prop) (h : w_insert a1 a2 a3 a4 a5 a6 t Q) : MetM l yX12_insert cX12_insert 13 (some .int) 4 [.ref mo, .int a1, .int a2, .int a3, .int a4, .int a5, .int a6] (pI Q) D cI cZ mo ad t := by
  unfold w_insert at h
  refine gm_start (by decide) rfl (Nat.le_of_ble_eq_true rfl) (fun p e s m args below meth c C E => ?_)
  refine gm_iloadn C 1 1 dX12_insert_0 rfl rfl ?_
  refine gm_callS C (y := yX12_isVoice) (as := [.int a1]) rfl (by decide) (by decide) (c_isVoice l D cI cZ mo ad a1 t) hy_isVoice rfl wl_184 cu_isVoice dX12_insert_1 (Nat.le_of_ble_eq_true rfl) (kP ?_)
  have k55 : ∀ x1 : Int32, x1 = (if (¬ ((v_isVoice a1) = 0)) ∧ ((¬ ((v_in a4 0 127) = 0)) ∧ ((¬ ((v_in a5 0 5) = 0)) ∧ ((¬ ((v_in a6 0 2) = 0)) ∧ ((¬ (a5 = 5)) ∨ (¬ (a6 = 1)))))) then 1 else 0) → GM p l e (rmD 4) s m args below meth c 13 D cI cZ mo ad (gm_Q below D cI cZ mo ad (pI Q t) args s) t 55 [(0, .ref mo), (1, .int a1), (2, .int a2), (3, .int a3), (4, .int a4), (5, .int a5), (6, .int a6)] [.int x1] := by
    intro x1 ex1
    have h := h x1 ex1
    refine gm_istore C [(7, .int x1), (0, .ref mo), (1, .int a1), (2, .int a2), (3, .int a3), (4, .int a4), (5, .int a5), (6, .int a6)] dX12_insert_55 (by decide) rfl ?_
    refine gm_iload C 0 dX12_insert_57 rfl ?_
    obtain ⟨g3, h⟩ := h
    have k93 : ∀ x2 : Int32, x2 = (if (¬ (x1 = 0)) ∧ ((¬ ((v_isBar a2 t) = 0)) ∧ (¬ ((v_in a3 0 (mgA t 6 (v_at a1 a2))) = 0))) then 1 else 0) → GM p l e (rmD 4) s m args below meth c 13 D cI cZ mo ad (gm_Q below D cI cZ mo ad (pI Q t) args s) t 93 [(0, .ref mo), (1, .int a1), (2, .int a2), (3, .int a3), (4, .int a4), (5, .int a5), (6, .int a6), (7, .int x1)] [.int x2] := by
      intro x2 ex2
      have h := h x2 ex2
      refine gm_istore C [(8, .int x2), (0, .ref mo), (1, .int a1), (2, .int a2), (3, .int a3), (4, .int a4), (5, .int a5), (6, .int a6), (7, .int x1)] dX12_insert_93 (by decide) rfl ?_
      refine gm_iload C 8 dX12_insert_95 rfl ?_
      have k109 : ∀ x4 : Int32, x4 = (if x1 = 0 then 0 else ((96 : Int32) >>> (a5 &&& 31))) → GM p l e (rmD 4) s m args below meth c 13 D cI cZ mo ad (gm_Q below D cI cZ mo ad (pI Q t) args s) t 109 [(0, .ref mo), (1, .int a1), (2, .int a2), (3, .int a3), (4, .int a4), (5, .int a5), (6, .int a6), (7, .int x1), (8, .int x2)] [.int x4] := by
        intro x4 ex4
        have h := h x4 ex4
        refine gm_istore C [(9, .int x4), (0, .ref mo), (1, .int a1), (2, .int a2), (3, .int a3), (4, .int a4), (5, .int a5), (6, .int a6), (7, .int x1), (8, .int x2)] dX12_insert_109 (by decide) rfl ?_
        refine gm_iload C 7 dX12_insert_111 rfl ?_
        refine gm_iconst C 1 dX12_insert_113 (by decide) ?_
        have k143 : ∀ x5 : Int32, x5 = (if a6 = 1 then ((x4 * 3) / 2) else (if a6 = 2 then ((x4 * 2) / 3) else x4)) → GM p l e (rmD 4) s m args below meth c 13 D cI cZ mo ad (gm_Q below D cI cZ mo ad (pI Q t) args s) t 143 [(0, .ref mo), (1, .int a1), (2, .int a2), (3, .int a3), (4, .int a4), (5, .int a5), (6, .int a6), (7, .int x1), (8, .int x2)] [.int x5] := by
          intro x5 ex5
          have h := h x5 ex5
          refine gm_istore C [(10, .int x5), (0, .ref mo), (1, .int a1), (2, .int a2), (3, .int a3), (4, .int a4), (5, .int a5), (6, .int a6), (7, .int x1), (8, .int x2)] dX12_insert_143 (by decide) rfl ?_
          refine gm_iload C 9 dX12_insert_145 rfl ?_
          obtain ⟨J203, hJ203, h⟩ := h
          have k203 : ∀ x6 : Int32, ∀ t7 : MS, J203 x6 t7 → GM p l e (rmD 4) s m args below meth c 13 D cI cZ mo ad (gm_Q below D cI cZ mo ad (pI Q t) args s) t7 203 [(0, .ref mo), (1, .int a1), (2, .int a2), (3, .int a3), (4, .int a4), (5, .int a5), (6, .int a6), (7, .int x1), (8, .int x2)] [.int x6] := by
            intro x6 t7 h
            have h := hJ203 x6 t7 h
            refine gm_istore C [(11, .int x6), (0, .ref mo), (1, .int a1), (2, .int a2), (3, .int a3), (4, .int a4), (5, .int a5), (6, .int a6), (7, .int x1), (8, .int x2)] dX12_insert_203 (by decide) rfl ?_
            refine gm_aload C 1 dX12_insert_205 rfl ?_
            refine gm_iload C 8 dX12_insert_206 rfl ?_
            refine gm_iload C 9 dX12_insert_208 rfl ?_
            refine gm_iload C 0 dX12_insert_210 rfl ?_
            refine gm_callV C (y := yX12_goes) (as := [.int x1, .int x2, .int x6]) rfl (by decide) (by decide) (c_goes l D cI cZ mo ad x1 x2 x6 t7 _ h) hy_goes rfl wl_165 cu_goes dX12_insert_212 (Nat.le_of_ble_eq_true rfl) (kI (fun r8 t8 h => ?_))
            refine gm_if_ne C 220 dX12_insert_215 (by decide) (fun c215_13 => ?_) (fun c215_13 => ?_)
            · have h := h.2 c215_13
              refine gm_aload C 1 dX12_insert_220 rfl ?_
              refine gm_getA C 6 (by decide) rfl wf_25 rfl dX12_insert_221 ?_
              refine gm_iloadn C 2 1 dX12_insert_224 rfl rfl ?_
              refine gm_iloadn C 3 2 dX12_insert_225 rfl rfl ?_
              refine gm_callS C (y := yX12_at) (as := [.int a1, .int a2]) rfl (by decide) (by decide) (c_at l D cI cZ mo ad a1 a2 t8) hy_at rfl wl_139 cu_at dX12_insert_226 (Nat.le_of_ble_eq_true rfl) (kP ?_)
              obtain ⟨g9, h⟩ := h
              refine gm_iald C 6 (by decide) rfl g9 dX12_insert_229 ?_
              refine gm_nameI (fun x10 ex10 => ?_)
              have h := h x10 ex10
              refine gm_istore C [(12, .int x10), (11, .int x6), (0, .ref mo), (1, .int a1), (2, .int a2), (3, .int a3), (4, .int a4), (5, .int a5), (6, .int a6), (7, .int x1), (8, .int x2)] dX12_insert_230 (by decide) rfl ?_
              refine gm_sub [2, 3, 4, 5, 6, 7, 8, 0] rfl ?_
              obtain ⟨n232, h⟩ := h
              have k232 : ∀ (n232 : Nat) (z232 : Int32 × MS), lp (w_insert_L232 a1 a2 a3 a4 a5 a6 Q) n232 z232 → GM p l e (rmD 4) s m args below meth c 13 D cI cZ mo ad (gm_Q below D cI cZ mo ad (pI Q t) args s) z232.2 232 [(0, .ref mo), (1, .int a1), (2, .int a2), (3, .int a3), (4, .int a4), (5, .int a5), (6, .int a6), (12, .int z232.1)] [] := by
                intro n232
                induction n232 with
                | zero => intro z232 h; exact h.elim
                | succ n232 ih232 =>
                  intro z232 h
                  have h : w_insert_L232 a1 a2 a3 a4 a5 a6 Q (lp (w_insert_L232 a1 a2 a3 a4 a5 a6 Q) n232) z232 := h
                  unfold w_insert_L232 at h
                  refine gm_iload C 7 dX12_insert_232 rfl ?_
                  refine gm_iloadn C 3 3 dX12_insert_234 rfl rfl ?_
                  refine gm_icmp_le C 264 dX12_insert_235 (by decide) (fun c235_14 => ?_) (fun c235_14 => ?_)
                  · have h := h.1 c235_14
                    refine gm_aload C 0 dX12_insert_264 rfl ?_
                    refine gm_iloadn C 1 1 dX12_insert_265 rfl rfl ?_
                    refine gm_iloadn C 2 2 dX12_insert_266 rfl rfl ?_
                    refine gm_iloadn C 3 3 dX12_insert_267 rfl rfl ?_
                    refine gm_iconst C 1 dX12_insert_268 (by decide) ?_
                    refine gm_callV C (y := yX12_moves) (as := [.int a1, .int a2, .int a3, .int 1]) rfl (by decide) (by decide) (c_moves l D cI cZ mo ad a1 a2 a3 1 z232.2 _ h) hy_moves rfl wl_194 cu_moves dX12_insert_269 (Nat.le_of_ble_eq_true rfl) (kV (fun t11 h => ?_))
                    refine gm_iloadn C 1 1 dX12_insert_272 rfl rfl ?_
                    refine gm_iloadn C 2 2 dX12_insert_273 rfl rfl ?_
                    refine gm_iloadn C 3 3 dX12_insert_274 rfl rfl ?_
                    refine gm_callS C (y := yX12_place) (as := [.int a1, .int a2, .int a3]) rfl (by decide) (by decide) (c_place l D cI cZ mo ad a1 a2 a3 t11) hy_place rfl wl_151 cu_place dX12_insert_275 (Nat.le_of_ble_eq_true rfl) (kP ?_)
                    refine gm_nameI (fun x12 ex12 => ?_)
                    have h := h x12 ex12
                    refine gm_istore C [(12, .int x12), (0, .ref mo), (1, .int a1), (2, .int a2), (3, .int a3), (4, .int a4), (5, .int a5), (6, .int a6)] dX12_insert_278 (by decide) rfl ?_
                    refine gm_aload C 1 dX12_insert_280 rfl ?_
                    refine gm_getA C 8 (by decide) rfl wf_32 rfl dX12_insert_281 ?_
                    refine gm_iload C 0 dX12_insert_284 rfl ?_
                    refine gm_iload C 5 dX12_insert_286 rfl ?_
                    obtain ⟨g13, h⟩ := h
                    refine gm_iast C 8 (by decide) rfl g13 dX12_insert_288 ?_
                    refine gm_nameT (fun t14 et14 => ?_)
                    have h := h t14 et14
                    refine gm_aload C 1 dX12_insert_289 rfl ?_
                    refine gm_getA C 9 (by decide) rfl wf_35 rfl dX12_insert_290 ?_
                    refine gm_iload C 0 dX12_insert_293 rfl ?_
                    refine gm_iload C 6 dX12_insert_295 rfl ?_
                    obtain ⟨g15, h⟩ := h
                    refine gm_iast C 9 (by decide) rfl g15 dX12_insert_297 ?_
                    refine gm_nameT (fun t16 et16 => ?_)
                    have h := h t16 et16
                    refine gm_aload C 1 dX12_insert_298 rfl ?_
                    refine gm_getA C 10 (by decide) rfl wf_38 rfl dX12_insert_299 ?_
                    refine gm_iload C 0 dX12_insert_302 rfl ?_
                    refine gm_iload C 7 dX12_insert_304 rfl ?_
                    obtain ⟨g17, h⟩ := h
                    refine gm_iast C 10 (by decide) rfl g17 dX12_insert_306 ?_
                    refine gm_nameT (fun t18 et18 => ?_)
                    have h := h t18 et18
                    refine gm_aload C 1 dX12_insert_307 rfl ?_
                    refine gm_getA C 11 (by decide) rfl wf_41 rfl dX12_insert_308 ?_
                    refine gm_iload C 0 dX12_insert_311 rfl ?_
                    refine gm_iconst C (-1) dX12_insert_313 (by decide) ?_
                    obtain ⟨g19, h⟩ := h
                    refine gm_iast C 11 (by decide) rfl g19 dX12_insert_314 ?_
                    refine gm_nameT (fun t20 et20 => ?_)
                    have h := h t20 et20
                    refine gm_aload C 1 dX12_insert_315 rfl ?_
                    refine gm_getA C 12 (by decide) rfl wf_44 rfl dX12_insert_316 ?_
                    refine gm_iload C 0 dX12_insert_319 rfl ?_
                    refine gm_iconst C 0 dX12_insert_321 (by decide) ?_
                    obtain ⟨g21, h⟩ := h
                    refine gm_bast C 12 (by decide) rfl g21 (Or.inl rfl) dX12_insert_322 ?_
                    refine gm_nameT (fun t22 et22 => ?_)
                    have h := h t22 et22
                    refine gm_aload C 1 dX12_insert_323 rfl ?_
                    refine gm_getA C 6 (by decide) rfl wf_25 rfl dX12_insert_324 ?_
                    refine gm_iloadn C 2 1 dX12_insert_327 rfl rfl ?_
                    refine gm_iloadn C 3 2 dX12_insert_328 rfl rfl ?_
                    refine gm_callS C (y := yX12_at) (as := [.int a1, .int a2]) rfl (by decide) (by decide) (c_at l D cI cZ mo ad a1 a2 t22) hy_at rfl wl_139 cu_at dX12_insert_329 (Nat.le_of_ble_eq_true rfl) (kP ?_)
                    refine gm_dup2 C dX12_insert_332 rfl rfl ?_
                    obtain ⟨g23, h⟩ := h
                    refine gm_iald C 6 (by decide) rfl g23 dX12_insert_333 ?_
                    refine gm_iconst C 1 dX12_insert_334 (by decide) ?_
                    refine gm_iadd C dX12_insert_335 ?_
                    obtain ⟨g24, h⟩ := h
                    refine gm_iast C 6 (by decide) rfl g24 dX12_insert_336 ?_
                    refine gm_nameT (fun t25 et25 => ?_)
                    have h := h t25 et25
                    refine gm_aload C 1 dX12_insert_337 rfl ?_
                    refine gm_iloadn C 3 2 dX12_insert_338 rfl rfl ?_
                    obtain ⟨g26, h⟩ := h
                    refine gm_callV C (y := yX12_lengthOf) (as := [.int a2]) rfl (by decide) (by decide) (c_lengthOf l D cI cZ mo ad a2 t25 g26) hy_lengthOf rfl wl_172 cu_lengthOf dX12_insert_339 (Nat.le_of_ble_eq_true rfl) (kP ?_)
                    refine gm_aload C 1 dX12_insert_342 rfl ?_
                    refine gm_iloadn C 2 1 dX12_insert_343 rfl rfl ?_
                    refine gm_iloadn C 3 2 dX12_insert_344 rfl rfl ?_
                    refine gm_callV C (y := yX12_allTicks) (as := [.int a1, .int a2]) rfl (by decide) (by decide) (c_allTicks l D cI cZ mo ad a1 a2 t25 _ h) hy_allTicks rfl wl_169 cu_allTicks dX12_insert_345 (Nat.le_of_ble_eq_true rfl) (kI (fun r27 t27 h => ?_))
                    refine gm_isub C dX12_insert_348 ?_
                    exact gm_iret C E dX12_insert_349 ⟨_, rfl, h⟩
                  · have h := h.2 c235_14
                    refine gm_aload C 0 dX12_insert_238 rfl ?_
                    refine gm_iloadn C 1 1 dX12_insert_239 rfl rfl ?_
                    refine gm_iloadn C 2 2 dX12_insert_240 rfl rfl ?_
                    refine gm_iload C 7 dX12_insert_241 rfl ?_
                    refine gm_iconst C 1 dX12_insert_243 (by decide) ?_
                    refine gm_isub C dX12_insert_244 ?_
                    refine gm_callS C (y := yX12_place) (as := [.int a1, .int a2, .int (z232.1 - 1)]) rfl (by decide) (by decide) (c_place l D cI cZ mo ad a1 a2 (z232.1 - 1) z232.2) hy_place rfl wl_151 cu_place dX12_insert_245 (Nat.le_of_ble_eq_true rfl) (kP ?_)
                    refine gm_iloadn C 1 1 dX12_insert_248 rfl rfl ?_
                    refine gm_iloadn C 2 2 dX12_insert_249 rfl rfl ?_
                    refine gm_iload C 7 dX12_insert_250 rfl ?_
                    refine gm_callS C (y := yX12_place) (as := [.int a1, .int a2, .int z232.1]) rfl (by decide) (by decide) (c_place l D cI cZ mo ad a1 a2 z232.1 z232.2) hy_place rfl wl_151 cu_place dX12_insert_252 (Nat.le_of_ble_eq_true rfl) (kP ?_)
                    refine gm_callV C (y := yX12_copies) (as := [.int (v_place a1 a2 (z232.1 - 1)), .int (v_place a1 a2 z232.1)]) rfl (by decide) (by decide) (c_copies l D cI cZ mo ad (v_place a1 a2 (z232.1 - 1)) (v_place a1 a2 z232.1) z232.2 _ h) hy_copies rfl wl_190 cu_copies dX12_insert_255 (Nat.le_of_ble_eq_true rfl) (kV (fun t28 h => ?_))
                    refine gm_iinc C 7 (z232.1 + (-1)) [(12, .int (z232.1 + (-1))), (0, .ref mo), (1, .int a1), (2, .int a2), (3, .int a3), (4, .int a4), (5, .int a5), (6, .int a6)] dX12_insert_258 rfl rfl (by decide) rfl ?_
                    refine gm_goto C 232 dX12_insert_261 (by decide) ?_
                    refine gm_sub [1, 2, 3, 4, 5, 6, 7, 0] rfl ?_
                    have h9 := ih232 ((z232.1 + (-1)), t28) h
                    exact h9
              exact k232 n232 (x10, t8) h
            · have h := h.1 c215_13
              refine gm_iconst C 0 dX12_insert_218 (by decide) ?_
              exact gm_iret C E dX12_insert_219 ⟨_, rfl, h⟩
          obtain ⟨J202, hJ202, h⟩ := h
          have k202 : ∀ t29 : MS, J202 t29 → GM p l e (rmD 4) s m args below meth c 13 D cI cZ mo ad (gm_Q below D cI cZ mo ad (pI Q t) args s) t29 202 [(0, .ref mo), (1, .int a1), (2, .int a2), (3, .int a3), (4, .int a4), (5, .int a5), (6, .int a6), (7, .int x1), (8, .int x2)] [] := by
            intro t29 h
            have h := hJ202 t29 h
            refine gm_iconst C 0 dX12_insert_202 (by decide) ?_
            exact k203 0 t29 h
          obtain ⟨g30, h⟩ := h
          have kt143 : ((x2 = 0) ∨ (16 ≤ (mgA t 6 (v_at a1 a2)))) → GM p l e (rmD 4) s m args below meth c 13 D cI cZ mo ad (gm_Q below D cI cZ mo ad (pI Q t) args s) t 202 [(10, .int x5), (0, .ref mo), (1, .int a1), (2, .int a2), (3, .int a3), (4, .int a4), (5, .int a5), (6, .int a6), (7, .int x1), (8, .int x2)] [] := by
            intro hc
            have h := h.1 hc
            refine gm_sub [1, 2, 3, 4, 5, 6, 7, 8, 9] rfl ?_
            exact k202 t h
          have kf143 : ¬ ((x2 = 0) ∨ (16 ≤ (mgA t 6 (v_at a1 a2)))) → GM p l e (rmD 4) s m args below meth c 13 D cI cZ mo ad (gm_Q below D cI cZ mo ad (pI Q t) args s) t 165 [(10, .int x5), (0, .ref mo), (1, .int a1), (2, .int a2), (3, .int a3), (4, .int a4), (5, .int a5), (6, .int a6), (7, .int x1), (8, .int x2)] [] := by
            intro hc
            have h := h.2 hc
            refine gm_aload C 1 dX12_insert_165 rfl ?_
            refine gm_iloadn C 2 1 dX12_insert_166 rfl rfl ?_
            refine gm_iloadn C 3 2 dX12_insert_167 rfl rfl ?_
            refine gm_callV C (y := yX12_allTicks) (as := [.int a1, .int a2]) rfl (by decide) (by decide) (c_allTicks l D cI cZ mo ad a1 a2 t _ h) hy_allTicks rfl wl_169 cu_allTicks dX12_insert_168 (Nat.le_of_ble_eq_true rfl) (kI (fun r31 t31 h => ?_))
            refine gm_iload C 0 dX12_insert_171 rfl ?_
            refine gm_iadd C dX12_insert_173 ?_
            refine gm_aload C 1 dX12_insert_174 rfl ?_
            refine gm_iloadn C 3 2 dX12_insert_175 rfl rfl ?_
            obtain ⟨g32, h⟩ := h
            refine gm_callV C (y := yX12_lengthOf) (as := [.int a2]) rfl (by decide) (by decide) (c_lengthOf l D cI cZ mo ad a2 t31 g32) hy_lengthOf rfl wl_172 cu_lengthOf dX12_insert_176 (Nat.le_of_ble_eq_true rfl) (kP ?_)
            obtain ⟨g33, h⟩ := h
            have kt165 : (((v_lengthOf a2 t31) < (r31 + x5)) ∨ ((v_isWritten a1 a4 (mgA t31 13 a1)) = 0)) → GM p l e (rmD 4) s m args below meth c 13 D cI cZ mo ad (gm_Q below D cI cZ mo ad (pI Q t) args s) t31 202 [(10, .int x5), (0, .ref mo), (1, .int a1), (2, .int a2), (3, .int a3), (4, .int a4), (5, .int a5), (6, .int a6), (7, .int x1), (8, .int x2)] [] := by
              intro hc
              have h := h.1 hc
              refine gm_sub [1, 2, 3, 4, 5, 6, 7, 8, 9] rfl ?_
              exact k202 t31 h
            have kf165 : ¬ (((v_lengthOf a2 t31) < (r31 + x5)) ∨ ((v_isWritten a1 a4 (mgA t31 13 a1)) = 0)) → GM p l e (rmD 4) s m args below meth c 13 D cI cZ mo ad (gm_Q below D cI cZ mo ad (pI Q t) args s) t31 198 [(10, .int x5), (0, .ref mo), (1, .int a1), (2, .int a2), (3, .int a3), (4, .int a4), (5, .int a5), (6, .int a6), (7, .int x1), (8, .int x2)] [] := by
              intro hc
              have h := h.2 hc
              refine gm_iconst C 1 dX12_insert_198 (by decide) ?_
              refine gm_goto C 203 dX12_insert_199 (by decide) ?_
              refine gm_sub [1, 2, 3, 4, 5, 6, 7, 8, 9] rfl ?_
              exact k203 1 t31 h
            refine gm_icmp_gt C 202 dX12_insert_179 (by decide) (fun c179_17 => ?_) (fun c179_17 => ?_)
            · exact kt165 (Or.inl c179_17)
            · refine gm_aload C 1 dX12_insert_182 rfl ?_
              refine gm_iloadn C 2 1 dX12_insert_183 rfl rfl ?_
              refine gm_iload C 5 dX12_insert_184 rfl ?_
              refine gm_aload C 1 dX12_insert_186 rfl ?_
              refine gm_getA C 13 (by decide) rfl wf_47 rfl dX12_insert_187 ?_
              refine gm_iloadn C 2 1 dX12_insert_190 rfl rfl ?_
              refine gm_iald C 13 (by decide) rfl (g33 c179_17) dX12_insert_191 ?_
              refine gm_callV C (y := yX12_isWritten) (as := [.int a1, .int a4, .int (mgA t31 13 a1)]) rfl (by decide) (by decide) (c_isWritten l D cI cZ mo ad a1 a4 (mgA t31 13 a1) t31) hy_isWritten rfl wl_187 cu_isWritten dX12_insert_192 (Nat.le_of_ble_eq_true rfl) (kP ?_)
              refine gm_if_eq C 202 dX12_insert_195 (by decide) (fun c195_18 => ?_) (fun c195_18 => ?_)
              · exact kt165 (Or.inr c195_18)
              · exact kf165 (fun q0 => Or.elim q0 c179_17 c195_18)
          refine gm_if_eq C 202 dX12_insert_147 (by decide) (fun c147_15 => ?_) (fun c147_15 => ?_)
          · exact kt143 (Or.inl c147_15)
          · refine gm_aload C 1 dX12_insert_150 rfl ?_
            refine gm_getA C 6 (by decide) rfl wf_25 rfl dX12_insert_151 ?_
            refine gm_iloadn C 2 1 dX12_insert_154 rfl rfl ?_
            refine gm_iloadn C 3 2 dX12_insert_155 rfl rfl ?_
            refine gm_callS C (y := yX12_at) (as := [.int a1, .int a2]) rfl (by decide) (by decide) (c_at l D cI cZ mo ad a1 a2 t) hy_at rfl wl_139 cu_at dX12_insert_156 (Nat.le_of_ble_eq_true rfl) (kP ?_)
            refine gm_iald C 6 (by decide) rfl (g30 c147_15) dX12_insert_159 ?_
            refine gm_bipush C 16 dX12_insert_160 (by decide) ?_
            refine gm_icmp_ge C 202 dX12_insert_162 (by decide) (fun c162_16 => ?_) (fun c162_16 => ?_)
            · exact kt143 (Or.inr c162_16)
            · exact kf143 (fun q0 => Or.elim q0 c147_15 c162_16)
        refine gm_icmp_ne C 126 dX12_insert_114 (by decide) (fun c114_11 => ?_) (fun c114_11 => ?_)
        · refine gm_iload C 7 dX12_insert_126 rfl ?_
          refine gm_iconst C 2 dX12_insert_128 (by decide) ?_
          refine gm_icmp_ne C 141 dX12_insert_129 (by decide) (fun c129_12 => ?_) (fun c129_12 => ?_)
          · refine gm_iload C 0 dX12_insert_141 rfl ?_
            refine gm_sub [1, 2, 3, 4, 5, 6, 7, 8, 9] rfl ?_
            exact k143 _ (((Eq.trans (if_neg c114_11) (if_neg c129_12))).symm)
          · refine gm_iload C 0 dX12_insert_132 rfl ?_
            refine gm_iconst C 2 dX12_insert_134 (by decide) ?_
            refine gm_imul C dX12_insert_135 ?_
            refine gm_iconst C 3 dX12_insert_136 (by decide) ?_
            refine gm_idiv C dX12_insert_137 (by decide) ?_
            refine gm_goto C 143 dX12_insert_138 (by decide) ?_
            refine gm_sub [1, 2, 3, 4, 5, 6, 7, 8, 9] rfl ?_
            exact k143 _ (((Eq.trans (if_neg c114_11) (if_pos c129_12))).symm)
        · refine gm_iload C 0 dX12_insert_117 rfl ?_
          refine gm_iconst C 3 dX12_insert_119 (by decide) ?_
          refine gm_imul C dX12_insert_120 ?_
          refine gm_iconst C 2 dX12_insert_121 (by decide) ?_
          refine gm_idiv C dX12_insert_122 (by decide) ?_
          refine gm_goto C 143 dX12_insert_123 (by decide) ?_
          refine gm_sub [1, 2, 3, 4, 5, 6, 7, 8, 9] rfl ?_
          exact k143 _ (((if_pos c114_11)).symm)
      refine gm_if_eq C 108 dX12_insert_97 (by decide) (fun c97_10 => ?_) (fun c97_10 => ?_)
      · refine gm_iconst C 0 dX12_insert_108 (by decide) ?_
        refine gm_sub [1, 2, 3, 4, 5, 6, 7, 8, 0] rfl ?_
        exact k109 _ ((if_pos c97_10).symm)
      · refine gm_bipush C 96 dX12_insert_100 (by decide) ?_
        refine gm_iload C 6 dX12_insert_102 rfl ?_
        refine gm_ishr C dX12_insert_104 ?_
        refine gm_goto C 109 dX12_insert_105 (by decide) ?_
        refine gm_sub [1, 2, 3, 4, 5, 6, 7, 8, 0] rfl ?_
        exact k109 _ ((if_neg c97_10).symm)
    refine gm_if_eq C 92 dX12_insert_59 (by decide) (fun c59_7 => ?_) (fun c59_7 => ?_)
    · refine gm_iconst C 0 dX12_insert_92 (by decide) ?_
      refine gm_sub [1, 2, 3, 4, 5, 6, 7, 0] rfl ?_
      exact k93 _ ((if_neg (fun q0 => q0.1 c59_7)).symm)
    · refine gm_aload C 1 dX12_insert_62 rfl ?_
      refine gm_iloadn C 3 2 dX12_insert_63 rfl rfl ?_
      refine gm_callV C (y := yX12_isBar) (as := [.int a2]) rfl (by decide) (by decide) (c_isBar l D cI cZ mo ad a2 t) hy_isBar rfl wl_143 cu_isBar dX12_insert_64 (Nat.le_of_ble_eq_true rfl) (kP ?_)
      refine gm_if_eq C 92 dX12_insert_67 (by decide) (fun c67_8 => ?_) (fun c67_8 => ?_)
      · refine gm_iconst C 0 dX12_insert_92 (by decide) ?_
        refine gm_sub [1, 2, 3, 4, 5, 6, 7, 0] rfl ?_
        exact k93 _ ((if_neg (fun q0 => (fun q1 => q1.1 c67_8) q0.2)).symm)
      · refine gm_iloadn C 4 3 dX12_insert_70 rfl rfl ?_
        refine gm_iconst C 0 dX12_insert_71 (by decide) ?_
        refine gm_aload C 1 dX12_insert_72 rfl ?_
        refine gm_getA C 6 (by decide) rfl wf_25 rfl dX12_insert_73 ?_
        refine gm_iloadn C 2 1 dX12_insert_76 rfl rfl ?_
        refine gm_iloadn C 3 2 dX12_insert_77 rfl rfl ?_
        refine gm_callS C (y := yX12_at) (as := [.int a1, .int a2]) rfl (by decide) (by decide) (c_at l D cI cZ mo ad a1 a2 t) hy_at rfl wl_139 cu_at dX12_insert_78 (Nat.le_of_ble_eq_true rfl) (kP ?_)
        refine gm_iald C 6 (by decide) rfl (g3 c59_7 c67_8) dX12_insert_81 ?_
        refine gm_callS C (y := yX12_in) (as := [.int a3, .int 0, .int (mgA t 6 (v_at a1 a2))]) rfl (by decide) (by decide) (c_in l D cI cZ mo ad a3 0 (mgA t 6 (v_at a1 a2)) t) hy_in rfl wl_135 cu_in dX12_insert_82 (Nat.le_of_ble_eq_true rfl) (kP ?_)
        refine gm_if_eq C 92 dX12_insert_85 (by decide) (fun c85_9 => ?_) (fun c85_9 => ?_)
        · refine gm_iconst C 0 dX12_insert_92 (by decide) ?_
          refine gm_sub [1, 2, 3, 4, 5, 6, 7, 0] rfl ?_
          exact k93 _ ((if_neg (fun q0 => (fun q1 => (fun q2 => q2 c85_9) q1.2) q0.2)).symm)
        · refine gm_iconst C 1 dX12_insert_88 (by decide) ?_
          refine gm_goto C 93 dX12_insert_89 (by decide) ?_
          refine gm_sub [1, 2, 3, 4, 5, 6, 7, 0] rfl ?_
          exact k93 _ ((if_pos ⟨c59_7, ⟨c67_8, c85_9⟩⟩).symm)
  refine gm_if_eq C 54 dX12_insert_4 (by decide) (fun c4_1 => ?_) (fun c4_1 => ?_)
  · refine gm_iconst C 0 dX12_insert_54 (by decide) ?_
    exact k55 _ ((if_neg (fun q0 => q0.1 c4_1)).symm)
  · refine gm_iload C 4 dX12_insert_7 rfl ?_
    refine gm_iconst C 0 dX12_insert_9 (by decide) ?_
    refine gm_bipush C 127 dX12_insert_10 (by decide) ?_
    refine gm_callS C (y := yX12_in) (as := [.int a4, .int 0, .int 127]) rfl (by decide) (by decide) (c_in l D cI cZ mo ad a4 0 127 t) hy_in rfl wl_135 cu_in dX12_insert_12 (Nat.le_of_ble_eq_true rfl) (kP ?_)
    refine gm_if_eq C 54 dX12_insert_15 (by decide) (fun c15_2 => ?_) (fun c15_2 => ?_)
    · refine gm_iconst C 0 dX12_insert_54 (by decide) ?_
      exact k55 _ ((if_neg (fun q0 => (fun q1 => q1.1 c15_2) q0.2)).symm)
    · refine gm_iload C 5 dX12_insert_18 rfl ?_
      refine gm_iconst C 0 dX12_insert_20 (by decide) ?_
      refine gm_iconst C 5 dX12_insert_21 (by decide) ?_
      refine gm_callS C (y := yX12_in) (as := [.int a5, .int 0, .int 5]) rfl (by decide) (by decide) (c_in l D cI cZ mo ad a5 0 5 t) hy_in rfl wl_135 cu_in dX12_insert_22 (Nat.le_of_ble_eq_true rfl) (kP ?_)
      refine gm_if_eq C 54 dX12_insert_25 (by decide) (fun c25_3 => ?_) (fun c25_3 => ?_)
      · refine gm_iconst C 0 dX12_insert_54 (by decide) ?_
        exact k55 _ ((if_neg (fun q0 => (fun q1 => (fun q2 => q2.1 c25_3) q1.2) q0.2)).symm)
      · refine gm_iload C 6 dX12_insert_28 rfl ?_
        refine gm_iconst C 0 dX12_insert_30 (by decide) ?_
        refine gm_iconst C 2 dX12_insert_31 (by decide) ?_
        refine gm_callS C (y := yX12_in) (as := [.int a6, .int 0, .int 2]) rfl (by decide) (by decide) (c_in l D cI cZ mo ad a6 0 2 t) hy_in rfl wl_135 cu_in dX12_insert_32 (Nat.le_of_ble_eq_true rfl) (kP ?_)
        refine gm_if_eq C 54 dX12_insert_35 (by decide) (fun c35_4 => ?_) (fun c35_4 => ?_)
        · refine gm_iconst C 0 dX12_insert_54 (by decide) ?_
          exact k55 _ ((if_neg (fun q0 => (fun q1 => (fun q2 => (fun q3 => q3.1 c35_4) q2.2) q1.2) q0.2)).symm)
        · refine gm_iload C 5 dX12_insert_38 rfl ?_
          refine gm_iconst C 5 dX12_insert_40 (by decide) ?_
          refine gm_icmp_ne C 50 dX12_insert_41 (by decide) (fun c41_5 => ?_) (fun c41_5 => ?_)
          · refine gm_iconst C 1 dX12_insert_50 (by decide) ?_
            refine gm_goto C 55 dX12_insert_51 (by decide) ?_
            exact k55 _ ((if_pos ⟨c4_1, ⟨c15_2, ⟨c25_3, ⟨c35_4, (Or.inl c41_5)⟩⟩⟩⟩).symm)
          · refine gm_iload C 6 dX12_insert_44 rfl ?_
            refine gm_iconst C 1 dX12_insert_46 (by decide) ?_
            refine gm_icmp_eq C 54 dX12_insert_47 (by decide) (fun c47_6 => ?_) (fun c47_6 => ?_)
            · refine gm_iconst C 0 dX12_insert_54 (by decide) ?_
              exact k55 _ ((if_neg (fun q0 => (fun q1 => (fun q2 => (fun q3 => (fun q4 => Or.elim q4 (fun r => r c41_5) (fun q5 => q5 c47_6)) q3.2) q2.2) q1.2) q0.2)).symm)
            · refine gm_iconst C 1 dX12_insert_50 (by decide) ?_
              refine gm_goto C 55 dX12_insert_51 (by decide) ?_
              exact k55 _ ((if_pos ⟨c4_1, ⟨c15_2, ⟨c25_3, ⟨c35_4, (Or.inr c47_6)⟩⟩⟩⟩).symm)
def w_remove_L184 (a1 : Int32) (a2 : Int32) (Q : Int32 → MS → Prop) (x6 : Int32) (K184 : (Int32 × MS) → Prop) (z184 : Int32 × MS) : Prop := (mIn 6 (v_at a1 a2)) ∧ (((mgA z184.2 6 (v_at a1 a2)) ≤ z184.1) → Q x6 z184.2) ∧ (¬ ((mgA z184.2 6 (v_at a1 a2)) ≤ z184.1) → w_copies (v_place a1 a2 (z184.1 + 1)) (v_place a1 a2 z184.1) z184.2 (fun t12 => K184 ((z184.1 + 1), t12)))
def w_remove_L53 (a1 : Int32) (a2 : Int32) (a3 : Int32) (Q : Int32 → MS → Prop) (x6 : Int32) (K53 : (Int32 × MS) → Prop) (z53 : Int32 × MS) : Prop := (((mgI z53.2 14) ≤ z53.1) → w_moves a1 a2 (a3 + 1) (-1) z53.2 (fun t7 => (mIn 6 (v_at a1 a2)) ∧ (mIn 6 (v_at a1 a2)) ∧ ∀ t10 : MS, t10 = msA t7 6 (v_at a1 a2) ((mgA t7 6 (v_at a1 a2)) - 1) → ∃ n, lp (w_remove_L184 a1 a2 Q x6) n (a3, t10))) ∧ (¬ ((mgI z53.2 14) ≤ z53.1) → (mIn 16 z53.1) ∧ (((mgA z53.2 16 z53.1) = a2) → mIn 17 z53.1) ∧ (((mgA z53.2 16 z53.1) = a2) → (¬ ((mgA z53.2 17 z53.1) = a3)) → mIn 18 z53.1) ∧ (((mgA z53.2 16 z53.1) = a2) → (¬ ((mgA z53.2 17 z53.1) = a3)) → ((mgA z53.2 18 z53.1) = a2) → mIn 19 z53.1) ∧ ((¬ ((mgA z53.2 16 z53.1) = a2)) → mIn 18 z53.1) ∧ ((¬ ((mgA z53.2 16 z53.1) = a2)) → ((mgA z53.2 18 z53.1) = a2) → mIn 19 z53.1) ∧ ∀ x14 : Int32, x14 = (if (((mgA z53.2 16 z53.1) = a2) ∧ (((mgA z53.2 17 z53.1) = a3) ∨ (((mgA z53.2 18 z53.1) = a2) ∧ ((mgA z53.2 19 z53.1) = a3)))) ∨ ((¬ ((mgA z53.2 16 z53.1) = a2)) ∧ (((mgA z53.2 18 z53.1) = a2) ∧ ((mgA z53.2 19 z53.1) = a3))) then 1 else 0) → (mIn 20 z53.1) ∧ (((mgA z53.2 20 z53.1) = 0) → mIn 15 z53.1) ∧ ∀ x21 : Int32, x21 = (if (¬ ((mgA z53.2 20 z53.1) = 0)) ∨ (((mgA z53.2 15 z53.1) = a1) ∧ (¬ (x14 = 0))) then 1 else 0) → (mIn 20 z53.1) ∧ (gb x21) ∧ ∀ t25 : MS, t25 = msA z53.2 20 z53.1 x21 → K53 ((z53.1 + 1), t25))
def w_remove (a1 a2 a3 : Int32) (t : MS) (Q : Int32 → MS → Prop) : Prop := ∀ x1 : Int32, x1 = (v_isVoice a1) → ((¬ (x1 = 0)) → d_isEvent a1 a2 a3 t) ∧ ∀ x2 : Int32, x2 = (if (¬ (x1 = 0)) ∧ (¬ ((v_isEvent a1 a2 a3 t) = 0)) then 1 else 0) → w_goes x1 x2 1 t (fun r4 t4 => ((r4 = 0) → Q 0 t4) ∧ (¬ (r4 = 0) → (d_ticksOf (v_place a1 a2 a3) t4) ∧ ∀ x6 : Int32, x6 = (v_ticksOf (v_place a1 a2 a3) t4) → ∃ n, lp (w_remove_L53 a1 a2 a3 Q x6) n (0, t4)))
set_option maxRecDepth 20000 in
set_option maxHeartbeats 2000000 in
theorem c_remove (l : Launch) (D : va_G) (cI cZ : ClassId) (mo : Nat) (ad : Nat → Nat) (a1 a2 a3 : Int32) (t : MS) (Q : Int32 → MS → Prop) (h : w_remove a1 a2 a3 t Q) : MetM l yX12_remove cX12_remove 8 (some .int) 3 [.ref mo, .int a1, .int a2, .int a3] (pI Q) D cI cZ mo ad t := by
  unfold w_remove at h
  refine gm_start (by decide) rfl (Nat.le_of_ble_eq_true rfl) (fun p e s m args below meth c C E => ?_)
  refine gm_iloadn C 1 1 dX12_remove_0 rfl rfl ?_
  refine gm_callS C (y := yX12_isVoice) (as := [.int a1]) rfl (by decide) (by decide) (c_isVoice l D cI cZ mo ad a1 t) hy_isVoice rfl wl_184 cu_isVoice dX12_remove_1 (Nat.le_of_ble_eq_true rfl) (kP ?_)
  refine gm_nameI (fun x1 ex1 => ?_)
  have h := h x1 ex1
  refine gm_istore C [(4, .int x1), (0, .ref mo), (1, .int a1), (2, .int a2), (3, .int a3)] dX12_remove_4 (by decide) rfl ?_
  refine gm_aload C 1 dX12_remove_6 rfl ?_
  refine gm_iload C 0 dX12_remove_7 rfl ?_
  refine gm_iload C 0 dX12_remove_9 rfl ?_
  obtain ⟨g3, h⟩ := h
  have k29 : ∀ x2 : Int32, x2 = (if (¬ (x1 = 0)) ∧ (¬ ((v_isEvent a1 a2 a3 t) = 0)) then 1 else 0) → GM p l e (rmD 3) s m args below meth c 8 D cI cZ mo ad (gm_Q below D cI cZ mo ad (pI Q t) args s) t 29 [(0, .ref mo), (1, .int a1), (2, .int a2), (3, .int a3)] [.int x2, .int x1, .ref mo] := by
    intro x2 ex2
    have h := h x2 ex2
    refine gm_iconst C 1 dX12_remove_29 (by decide) ?_
    refine gm_callV C (y := yX12_goes) (as := [.int x1, .int x2, .int 1]) rfl (by decide) (by decide) (c_goes l D cI cZ mo ad x1 x2 1 t _ h) hy_goes rfl wl_165 cu_goes dX12_remove_30 (Nat.le_of_ble_eq_true rfl) (kI (fun r4 t4 h => ?_))
    refine gm_if_ne C 38 dX12_remove_33 (by decide) (fun c33_3 => ?_) (fun c33_3 => ?_)
    · have h := h.2 c33_3
      refine gm_aload C 0 dX12_remove_38 rfl ?_
      refine gm_iloadn C 1 1 dX12_remove_39 rfl rfl ?_
      refine gm_iloadn C 2 2 dX12_remove_40 rfl rfl ?_
      refine gm_iloadn C 3 3 dX12_remove_41 rfl rfl ?_
      refine gm_callS C (y := yX12_place) (as := [.int a1, .int a2, .int a3]) rfl (by decide) (by decide) (c_place l D cI cZ mo ad a1 a2 a3 t4) hy_place rfl wl_151 cu_place dX12_remove_42 (Nat.le_of_ble_eq_true rfl) (kP ?_)
      obtain ⟨g5, h⟩ := h
      refine gm_callV C (y := yX12_ticksOf) (as := [.int (v_place a1 a2 a3)]) rfl (by decide) (by decide) (c_ticksOf l D cI cZ mo ad (v_place a1 a2 a3) t4 g5) hy_ticksOf rfl wl_155 cu_ticksOf dX12_remove_45 (Nat.le_of_ble_eq_true rfl) (kP ?_)
      refine gm_nameI (fun x6 ex6 => ?_)
      have h := h x6 ex6
      refine gm_istore C [(5, .int x6), (0, .ref mo), (1, .int a1), (2, .int a2), (3, .int a3)] dX12_remove_48 (by decide) rfl ?_
      refine gm_iconst C 0 dX12_remove_50 (by decide) ?_
      refine gm_istore C [(6, .int 0), (5, .int x6), (0, .ref mo), (1, .int a1), (2, .int a2), (3, .int a3)] dX12_remove_51 (by decide) rfl ?_
      refine gm_sub [2, 3, 4, 5, 1, 0] rfl ?_
      obtain ⟨n53, h⟩ := h
      have k53 : ∀ (n53 : Nat) (z53 : Int32 × MS), lp (w_remove_L53 a1 a2 a3 Q x6) n53 z53 → GM p l e (rmD 3) s m args below meth c 8 D cI cZ mo ad (gm_Q below D cI cZ mo ad (pI Q t) args s) z53.2 53 [(0, .ref mo), (1, .int a1), (2, .int a2), (3, .int a3), (5, .int x6), (6, .int z53.1)] [] := by
        intro n53
        induction n53 with
        | zero => intro z53 h; exact h.elim
        | succ n53 ih53 =>
          intro z53 h
          have h : w_remove_L53 a1 a2 a3 Q x6 (lp (w_remove_L53 a1 a2 a3 Q x6) n53) z53 := h
          unfold w_remove_L53 at h
          refine gm_iload C 5 dX12_remove_53 rfl ?_
          refine gm_aload C 0 dX12_remove_55 rfl ?_
          refine gm_getI C 14 (by decide) rfl wf_181 rfl dX12_remove_56 ?_
          refine gm_icmp_ge C 157 dX12_remove_59 (by decide) (fun c59_4 => ?_) (fun c59_4 => ?_)
          · have h := h.1 c59_4
            refine gm_aload C 0 dX12_remove_157 rfl ?_
            refine gm_iloadn C 1 1 dX12_remove_158 rfl rfl ?_
            refine gm_iloadn C 2 2 dX12_remove_159 rfl rfl ?_
            refine gm_iloadn C 3 3 dX12_remove_160 rfl rfl ?_
            refine gm_iconst C 1 dX12_remove_161 (by decide) ?_
            refine gm_iadd C dX12_remove_162 ?_
            refine gm_iconst C (-1) dX12_remove_163 (by decide) ?_
            refine gm_callV C (y := yX12_moves) (as := [.int a1, .int a2, .int (a3 + 1), .int (-1)]) rfl (by decide) (by decide) (c_moves l D cI cZ mo ad a1 a2 (a3 + 1) (-1) z53.2 _ h) hy_moves rfl wl_194 cu_moves dX12_remove_164 (Nat.le_of_ble_eq_true rfl) (kV (fun t7 h => ?_))
            refine gm_aload C 0 dX12_remove_167 rfl ?_
            refine gm_getA C 6 (by decide) rfl wf_25 rfl dX12_remove_168 ?_
            refine gm_iloadn C 1 1 dX12_remove_171 rfl rfl ?_
            refine gm_iloadn C 2 2 dX12_remove_172 rfl rfl ?_
            refine gm_callS C (y := yX12_at) (as := [.int a1, .int a2]) rfl (by decide) (by decide) (c_at l D cI cZ mo ad a1 a2 t7) hy_at rfl wl_139 cu_at dX12_remove_173 (Nat.le_of_ble_eq_true rfl) (kP ?_)
            refine gm_dup2 C dX12_remove_176 rfl rfl ?_
            obtain ⟨g8, h⟩ := h
            refine gm_iald C 6 (by decide) rfl g8 dX12_remove_177 ?_
            refine gm_iconst C 1 dX12_remove_178 (by decide) ?_
            refine gm_isub C dX12_remove_179 ?_
            obtain ⟨g9, h⟩ := h
            refine gm_iast C 6 (by decide) rfl g9 dX12_remove_180 ?_
            refine gm_nameT (fun t10 et10 => ?_)
            have h := h t10 et10
            refine gm_iloadn C 3 3 dX12_remove_181 rfl rfl ?_
            refine gm_istore C [(6, .int a3), (0, .ref mo), (1, .int a1), (2, .int a2), (3, .int a3), (5, .int x6)] dX12_remove_182 (by decide) rfl ?_
            refine gm_sub [1, 2, 3, 5, 0] rfl ?_
            obtain ⟨n184, h⟩ := h
            have k184 : ∀ (n184 : Nat) (z184 : Int32 × MS), lp (w_remove_L184 a1 a2 Q x6) n184 z184 → GM p l e (rmD 3) s m args below meth c 8 D cI cZ mo ad (gm_Q below D cI cZ mo ad (pI Q t) args s) z184.2 184 [(0, .ref mo), (1, .int a1), (2, .int a2), (5, .int x6), (6, .int z184.1)] [] := by
              intro n184
              induction n184 with
              | zero => intro z184 h; exact h.elim
              | succ n184 ih184 =>
                intro z184 h
                have h : w_remove_L184 a1 a2 Q x6 (lp (w_remove_L184 a1 a2 Q x6) n184) z184 := h
                unfold w_remove_L184 at h
                refine gm_iload C 4 dX12_remove_184 rfl ?_
                refine gm_aload C 0 dX12_remove_186 rfl ?_
                refine gm_getA C 6 (by decide) rfl wf_25 rfl dX12_remove_187 ?_
                refine gm_iloadn C 1 1 dX12_remove_190 rfl rfl ?_
                refine gm_iloadn C 2 2 dX12_remove_191 rfl rfl ?_
                refine gm_callS C (y := yX12_at) (as := [.int a1, .int a2]) rfl (by decide) (by decide) (c_at l D cI cZ mo ad a1 a2 z184.2) hy_at rfl wl_139 cu_at dX12_remove_192 (Nat.le_of_ble_eq_true rfl) (kP ?_)
                obtain ⟨g11, h⟩ := h
                refine gm_iald C 6 (by decide) rfl g11 dX12_remove_195 ?_
                refine gm_icmp_ge C 225 dX12_remove_196 (by decide) (fun c196_5 => ?_) (fun c196_5 => ?_)
                · have h := h.1 c196_5
                  refine gm_iload C 3 dX12_remove_225 rfl ?_
                  exact gm_iret C E dX12_remove_227 ⟨_, rfl, h⟩
                · have h := h.2 c196_5
                  refine gm_aload C 0 dX12_remove_199 rfl ?_
                  refine gm_iloadn C 1 1 dX12_remove_200 rfl rfl ?_
                  refine gm_iloadn C 2 2 dX12_remove_201 rfl rfl ?_
                  refine gm_iload C 4 dX12_remove_202 rfl ?_
                  refine gm_iconst C 1 dX12_remove_204 (by decide) ?_
                  refine gm_iadd C dX12_remove_205 ?_
                  refine gm_callS C (y := yX12_place) (as := [.int a1, .int a2, .int (z184.1 + 1)]) rfl (by decide) (by decide) (c_place l D cI cZ mo ad a1 a2 (z184.1 + 1) z184.2) hy_place rfl wl_151 cu_place dX12_remove_206 (Nat.le_of_ble_eq_true rfl) (kP ?_)
                  refine gm_iloadn C 1 1 dX12_remove_209 rfl rfl ?_
                  refine gm_iloadn C 2 2 dX12_remove_210 rfl rfl ?_
                  refine gm_iload C 4 dX12_remove_211 rfl ?_
                  refine gm_callS C (y := yX12_place) (as := [.int a1, .int a2, .int z184.1]) rfl (by decide) (by decide) (c_place l D cI cZ mo ad a1 a2 z184.1 z184.2) hy_place rfl wl_151 cu_place dX12_remove_213 (Nat.le_of_ble_eq_true rfl) (kP ?_)
                  refine gm_callV C (y := yX12_copies) (as := [.int (v_place a1 a2 (z184.1 + 1)), .int (v_place a1 a2 z184.1)]) rfl (by decide) (by decide) (c_copies l D cI cZ mo ad (v_place a1 a2 (z184.1 + 1)) (v_place a1 a2 z184.1) z184.2 _ h) hy_copies rfl wl_190 cu_copies dX12_remove_216 (Nat.le_of_ble_eq_true rfl) (kV (fun t12 h => ?_))
                  refine gm_iinc C 4 (z184.1 + 1) [(6, .int (z184.1 + 1)), (0, .ref mo), (1, .int a1), (2, .int a2), (5, .int x6)] dX12_remove_219 rfl rfl (by decide) rfl ?_
                  refine gm_goto C 184 dX12_remove_222 (by decide) ?_
                  refine gm_sub [1, 2, 3, 4, 0] rfl ?_
                  have h9 := ih184 ((z184.1 + 1), t12) h
                  exact h9
            exact k184 n184 (a3, t10) h
          · have h := h.2 c59_4
            refine gm_aload C 0 dX12_remove_62 rfl ?_
            refine gm_getA C 16 (by decide) rfl wf_53 rfl dX12_remove_63 ?_
            refine gm_iload C 5 dX12_remove_66 rfl ?_
            obtain ⟨g13, h⟩ := h
            refine gm_iald C 16 (by decide) rfl g13 dX12_remove_68 ?_
            refine gm_iloadn C 2 2 dX12_remove_69 rfl rfl ?_
            obtain ⟨g15, h⟩ := h
            obtain ⟨g16, h⟩ := h
            obtain ⟨g17, h⟩ := h
            obtain ⟨g18, h⟩ := h
            obtain ⟨g19, h⟩ := h
            have k111 : ∀ x14 : Int32, x14 = (if (((mgA z53.2 16 z53.1) = a2) ∧ (((mgA z53.2 17 z53.1) = a3) ∨ (((mgA z53.2 18 z53.1) = a2) ∧ ((mgA z53.2 19 z53.1) = a3)))) ∨ ((¬ ((mgA z53.2 16 z53.1) = a2)) ∧ (((mgA z53.2 18 z53.1) = a2) ∧ ((mgA z53.2 19 z53.1) = a3))) then 1 else 0) → GM p l e (rmD 3) s m args below meth c 8 D cI cZ mo ad (gm_Q below D cI cZ mo ad (pI Q t) args s) z53.2 111 [(0, .ref mo), (1, .int a1), (2, .int a2), (3, .int a3), (5, .int x6), (6, .int z53.1)] [.int x14] := by
              intro x14 ex14
              have h := h x14 ex14
              refine gm_istore C [(7, .int x14), (0, .ref mo), (1, .int a1), (2, .int a2), (3, .int a3), (5, .int x6), (6, .int z53.1)] dX12_remove_111 (by decide) rfl ?_
              refine gm_aload C 1 dX12_remove_113 rfl ?_
              refine gm_getA C 20 (by decide) rfl wf_65 rfl dX12_remove_114 ?_
              refine gm_iload C 6 dX12_remove_117 rfl ?_
              refine gm_aload C 1 dX12_remove_119 rfl ?_
              refine gm_getA C 20 (by decide) rfl wf_65 rfl dX12_remove_120 ?_
              refine gm_iload C 6 dX12_remove_123 rfl ?_
              obtain ⟨g20, h⟩ := h
              refine gm_bald C 20 (by decide) rfl g20 dX12_remove_125 ?_
              obtain ⟨g22, h⟩ := h
              have k150 : ∀ x21 : Int32, x21 = (if (¬ ((mgA z53.2 20 z53.1) = 0)) ∨ (((mgA z53.2 15 z53.1) = a1) ∧ (¬ (x14 = 0))) then 1 else 0) → GM p l e (rmD 3) s m args below meth c 8 D cI cZ mo ad (gm_Q below D cI cZ mo ad (pI Q t) args s) z53.2 150 [(0, .ref mo), (1, .int a1), (2, .int a2), (3, .int a3), (5, .int x6), (6, .int z53.1)] [.int x21, .int z53.1, .ref (ad 20)] := by
                intro x21 ex21
                have h := h x21 ex21
                obtain ⟨g23, h⟩ := h
                obtain ⟨g24, h⟩ := h
                refine gm_bast C 20 (by decide) rfl g23 g24 dX12_remove_150 ?_
                refine gm_nameT (fun t25 et25 => ?_)
                have h := h t25 et25
                refine gm_iinc C 5 (z53.1 + 1) [(6, .int (z53.1 + 1)), (0, .ref mo), (1, .int a1), (2, .int a2), (3, .int a3), (5, .int x6)] dX12_remove_151 rfl rfl (by decide) rfl ?_
                refine gm_goto C 53 dX12_remove_154 (by decide) ?_
                refine gm_sub [1, 2, 3, 4, 5, 0] rfl ?_
                have h9 := ih53 ((z53.1 + 1), t25) h
                exact h9
              refine gm_if_ne C 145 dX12_remove_126 (by decide) (fun c126_12 => ?_) (fun c126_12 => ?_)
              · refine gm_iconst C 1 dX12_remove_145 (by decide) ?_
                refine gm_goto C 150 dX12_remove_146 (by decide) ?_
                refine gm_sub [1, 2, 3, 4, 5, 6] rfl ?_
                exact k150 _ ((if_pos (Or.inl c126_12)).symm)
              · refine gm_aload C 1 dX12_remove_129 rfl ?_
                refine gm_getA C 15 (by decide) rfl wf_50 rfl dX12_remove_130 ?_
                refine gm_iload C 6 dX12_remove_133 rfl ?_
                refine gm_iald C 15 (by decide) rfl (g22 c126_12) dX12_remove_135 ?_
                refine gm_iloadn C 2 1 dX12_remove_136 rfl rfl ?_
                refine gm_icmp_ne C 149 dX12_remove_137 (by decide) (fun c137_13 => ?_) (fun c137_13 => ?_)
                · refine gm_iconst C 0 dX12_remove_149 (by decide) ?_
                  refine gm_sub [1, 2, 3, 4, 5, 6] rfl ?_
                  exact k150 _ ((if_neg (fun q0 => Or.elim q0 (fun r => r c126_12) (fun q1 => c137_13 q1.1))).symm)
                · refine gm_iload C 0 dX12_remove_140 rfl ?_
                  refine gm_if_eq C 149 dX12_remove_142 (by decide) (fun c142_14 => ?_) (fun c142_14 => ?_)
                  · refine gm_iconst C 0 dX12_remove_149 (by decide) ?_
                    refine gm_sub [1, 2, 3, 4, 5, 6] rfl ?_
                    exact k150 _ ((if_neg (fun q0 => Or.elim q0 (fun r => r c126_12) (fun q1 => (fun q2 => q2 c142_14) q1.2))).symm)
                  · refine gm_iconst C 1 dX12_remove_145 (by decide) ?_
                    refine gm_goto C 150 dX12_remove_146 (by decide) ?_
                    refine gm_sub [1, 2, 3, 4, 5, 6] rfl ?_
                    exact k150 _ ((if_pos (Or.inr ⟨c137_13, c142_14⟩)).symm)
            refine gm_icmp_ne C 84 dX12_remove_70 (by decide) (fun c70_6 => ?_) (fun c70_6 => ?_)
            · refine gm_aload C 0 dX12_remove_84 rfl ?_
              refine gm_getA C 18 (by decide) rfl wf_59 rfl dX12_remove_85 ?_
              refine gm_iload C 5 dX12_remove_88 rfl ?_
              refine gm_iald C 18 (by decide) rfl (g18 c70_6) dX12_remove_90 ?_
              refine gm_iloadn C 2 2 dX12_remove_91 rfl rfl ?_
              refine gm_icmp_ne C 110 dX12_remove_92 (by decide) (fun c92_10 => ?_) (fun c92_10 => ?_)
              · refine gm_iconst C 0 dX12_remove_110 (by decide) ?_
                exact k111 _ ((if_neg (fun q0 => Or.elim q0 (fun r => c70_6 r.1) (fun r => (fun q1 => c92_10 q1.1) r.2))).symm)
              · refine gm_aload C 0 dX12_remove_95 rfl ?_
                refine gm_getA C 19 (by decide) rfl wf_62 rfl dX12_remove_96 ?_
                refine gm_iload C 5 dX12_remove_99 rfl ?_
                refine gm_iald C 19 (by decide) rfl (g19 c70_6 c92_10) dX12_remove_101 ?_
                refine gm_iloadn C 3 3 dX12_remove_102 rfl rfl ?_
                refine gm_icmp_ne C 110 dX12_remove_103 (by decide) (fun c103_11 => ?_) (fun c103_11 => ?_)
                · refine gm_iconst C 0 dX12_remove_110 (by decide) ?_
                  exact k111 _ ((if_neg (fun q0 => Or.elim q0 (fun r => c70_6 r.1) (fun r => (fun q1 => c103_11 q1.2) r.2))).symm)
                · refine gm_iconst C 1 dX12_remove_106 (by decide) ?_
                  refine gm_goto C 111 dX12_remove_107 (by decide) ?_
                  exact k111 _ ((if_pos (Or.inr ⟨c70_6, ⟨c92_10, c103_11⟩⟩)).symm)
            · refine gm_aload C 0 dX12_remove_73 rfl ?_
              refine gm_getA C 17 (by decide) rfl wf_56 rfl dX12_remove_74 ?_
              refine gm_iload C 5 dX12_remove_77 rfl ?_
              refine gm_iald C 17 (by decide) rfl (g15 c70_6) dX12_remove_79 ?_
              refine gm_iloadn C 3 3 dX12_remove_80 rfl rfl ?_
              refine gm_icmp_eq C 106 dX12_remove_81 (by decide) (fun c81_7 => ?_) (fun c81_7 => ?_)
              · refine gm_iconst C 1 dX12_remove_106 (by decide) ?_
                refine gm_goto C 111 dX12_remove_107 (by decide) ?_
                exact k111 _ ((if_pos (Or.inl ⟨c70_6, (Or.inl c81_7)⟩)).symm)
              · refine gm_aload C 0 dX12_remove_84 rfl ?_
                refine gm_getA C 18 (by decide) rfl wf_59 rfl dX12_remove_85 ?_
                refine gm_iload C 5 dX12_remove_88 rfl ?_
                refine gm_iald C 18 (by decide) rfl (g16 c70_6 c81_7) dX12_remove_90 ?_
                refine gm_iloadn C 2 2 dX12_remove_91 rfl rfl ?_
                refine gm_icmp_ne C 110 dX12_remove_92 (by decide) (fun c92_8 => ?_) (fun c92_8 => ?_)
                · refine gm_iconst C 0 dX12_remove_110 (by decide) ?_
                  exact k111 _ ((if_neg (fun q0 => Or.elim q0 (fun r => (fun q1 => Or.elim q1 c81_7 (fun q2 => c92_8 q2.1)) r.2) (fun r => r.1 c70_6))).symm)
                · refine gm_aload C 0 dX12_remove_95 rfl ?_
                  refine gm_getA C 19 (by decide) rfl wf_62 rfl dX12_remove_96 ?_
                  refine gm_iload C 5 dX12_remove_99 rfl ?_
                  refine gm_iald C 19 (by decide) rfl (g17 c70_6 c81_7 c92_8) dX12_remove_101 ?_
                  refine gm_iloadn C 3 3 dX12_remove_102 rfl rfl ?_
                  refine gm_icmp_ne C 110 dX12_remove_103 (by decide) (fun c103_9 => ?_) (fun c103_9 => ?_)
                  · refine gm_iconst C 0 dX12_remove_110 (by decide) ?_
                    exact k111 _ ((if_neg (fun q0 => Or.elim q0 (fun r => (fun q1 => Or.elim q1 c81_7 (fun q2 => c103_9 q2.2)) r.2) (fun r => r.1 c70_6))).symm)
                  · refine gm_iconst C 1 dX12_remove_106 (by decide) ?_
                    refine gm_goto C 111 dX12_remove_107 (by decide) ?_
                    exact k111 _ ((if_pos (Or.inl ⟨c70_6, (Or.inr ⟨c92_8, c103_9⟩)⟩)).symm)
      exact k53 n53 (0, t4) h
    · have h := h.1 c33_3
      refine gm_iconst C 0 dX12_remove_36 (by decide) ?_
      exact gm_iret C E dX12_remove_37 ⟨_, rfl, h⟩
  refine gm_if_eq C 28 dX12_remove_11 (by decide) (fun c11_1 => ?_) (fun c11_1 => ?_)
  · refine gm_iconst C 0 dX12_remove_28 (by decide) ?_
    refine gm_sub [1, 2, 3, 4] rfl ?_
    exact k29 _ ((if_neg (fun q0 => q0.1 c11_1)).symm)
  · refine gm_aload C 1 dX12_remove_14 rfl ?_
    refine gm_iloadn C 2 1 dX12_remove_15 rfl rfl ?_
    refine gm_iloadn C 3 2 dX12_remove_16 rfl rfl ?_
    refine gm_iloadn C 4 3 dX12_remove_17 rfl rfl ?_
    refine gm_callV C (y := yX12_isEvent) (as := [.int a1, .int a2, .int a3]) rfl (by decide) (by decide) (c_isEvent l D cI cZ mo ad a1 a2 a3 t (g3 c11_1)) hy_isEvent rfl wl_198 cu_isEvent dX12_remove_18 (Nat.le_of_ble_eq_true rfl) (kP ?_)
    refine gm_if_eq C 28 dX12_remove_21 (by decide) (fun c21_2 => ?_) (fun c21_2 => ?_)
    · refine gm_iconst C 0 dX12_remove_28 (by decide) ?_
      refine gm_sub [1, 2, 3, 4] rfl ?_
      exact k29 _ ((if_neg (fun q0 => (fun q1 => q1 c21_2) q0.2)).symm)
    · refine gm_iconst C 1 dX12_remove_24 (by decide) ?_
      refine gm_goto C 29 dX12_remove_25 (by decide) ?_
      refine gm_sub [1, 2, 3, 4] rfl ?_
      exact k29 _ ((if_pos ⟨c11_1, c21_2⟩).symm)
def w_setPitch (a1 a2 a3 a4 : Int32) (t : MS) (Q : Int32 → MS → Prop) : Prop := ∀ x1 : Int32, x1 = (if (¬ ((v_isVoice a1) = 0)) ∧ (¬ ((v_in a4 0 127) = 0)) then 1 else 0) → ((¬ (x1 = 0)) → d_isEvent a1 a2 a3 t) ∧ ∀ x2 : Int32, x2 = (if (¬ (x1 = 0)) ∧ (¬ ((v_isEvent a1 a2 a3 t) = 0)) then 1 else 0) → ((¬ (x2 = 0)) → mIn 13 a1) ∧ ∀ x4 : Int32, x4 = (if (¬ (x2 = 0)) ∧ (¬ ((v_isWritten a1 a4 (mgA t 13 a1)) = 0)) then 1 else 0) → w_goes x1 x2 x4 t (fun r6 t6 => ((r6 = 0) → Q 0 t6) ∧ (¬ (r6 = 0) → ∀ x7 : Int32, x7 = (v_place a1 a2 a3) → (mIn 8 x7) ∧ ∀ x9 : Int32, x9 = (mgA t6 8 x7) → (mIn 8 x7) ∧ ∀ t11 : MS, t11 = msA t6 8 x7 a4 → (mIn 12 x7) ∧ ∀ x13 : Int32, x13 = (if (¬ ((mgA t11 12 x7) = 0)) ∧ (¬ (a4 ≤ 0)) then 1 else 0) → (mIn 12 x7) ∧ (gb x13) ∧ ∀ t16 : MS, t16 = msA t11 12 x7 x13 → Q x9 t16))
set_option maxRecDepth 20000 in
set_option maxHeartbeats 2000000 in
theorem c_setPitch (l : Launch) (D : va_G) (cI cZ : ClassId) (mo : Nat) (ad : Nat → Nat) (a1 a2 a3 a4 : Int32) (t : MS) (Q : Int32 → MS → Prop) (h : w_setPitch a1 a2 a3 a4 t Q) : MetM l yX12_setPitch cX12_setPitch 9 (some .int) 3 [.ref mo, .int a1, .int a2, .int a3, .int a4] (pI Q) D cI cZ mo ad t := by
  unfold w_setPitch at h
  refine gm_start (by decide) rfl (Nat.le_of_ble_eq_true rfl) (fun p e s m args below meth c C E => ?_)
  refine gm_iloadn C 1 1 dX12_setPitch_0 rfl rfl ?_
  refine gm_callS C (y := yX12_isVoice) (as := [.int a1]) rfl (by decide) (by decide) (c_isVoice l D cI cZ mo ad a1 t) hy_isVoice rfl wl_184 cu_isVoice dX12_setPitch_1 (Nat.le_of_ble_eq_true rfl) (kP ?_)
  have k23 : ∀ x1 : Int32, x1 = (if (¬ ((v_isVoice a1) = 0)) ∧ (¬ ((v_in a4 0 127) = 0)) then 1 else 0) → GM p l e (rmD 3) s m args below meth c 9 D cI cZ mo ad (gm_Q below D cI cZ mo ad (pI Q t) args s) t 23 [(0, .ref mo), (1, .int a1), (2, .int a2), (3, .int a3), (4, .int a4)] [.int x1] := by
    intro x1 ex1
    have h := h x1 ex1
    refine gm_istore C [(5, .int x1), (0, .ref mo), (1, .int a1), (2, .int a2), (3, .int a3), (4, .int a4)] dX12_setPitch_23 (by decide) rfl ?_
    refine gm_iload C 0 dX12_setPitch_25 rfl ?_
    obtain ⟨g3, h⟩ := h
    have k45 : ∀ x2 : Int32, x2 = (if (¬ (x1 = 0)) ∧ (¬ ((v_isEvent a1 a2 a3 t) = 0)) then 1 else 0) → GM p l e (rmD 3) s m args below meth c 9 D cI cZ mo ad (gm_Q below D cI cZ mo ad (pI Q t) args s) t 45 [(0, .ref mo), (1, .int a1), (2, .int a2), (3, .int a3), (4, .int a4), (5, .int x1)] [.int x2] := by
      intro x2 ex2
      have h := h x2 ex2
      refine gm_istore C [(6, .int x2), (0, .ref mo), (1, .int a1), (2, .int a2), (3, .int a3), (4, .int a4), (5, .int x1)] dX12_setPitch_45 (by decide) rfl ?_
      refine gm_aload C 1 dX12_setPitch_47 rfl ?_
      refine gm_iload C 6 dX12_setPitch_48 rfl ?_
      refine gm_iload C 0 dX12_setPitch_50 rfl ?_
      refine gm_iload C 0 dX12_setPitch_52 rfl ?_
      obtain ⟨g5, h⟩ := h
      have k78 : ∀ x4 : Int32, x4 = (if (¬ (x2 = 0)) ∧ (¬ ((v_isWritten a1 a4 (mgA t 13 a1)) = 0)) then 1 else 0) → GM p l e (rmD 3) s m args below meth c 9 D cI cZ mo ad (gm_Q below D cI cZ mo ad (pI Q t) args s) t 78 [(0, .ref mo), (1, .int a1), (2, .int a2), (3, .int a3), (4, .int a4)] [.int x4, .int x2, .int x1, .ref mo] := by
        intro x4 ex4
        have h := h x4 ex4
        refine gm_callV C (y := yX12_goes) (as := [.int x1, .int x2, .int x4]) rfl (by decide) (by decide) (c_goes l D cI cZ mo ad x1 x2 x4 t _ h) hy_goes rfl wl_165 cu_goes dX12_setPitch_78 (Nat.le_of_ble_eq_true rfl) (kI (fun r6 t6 h => ?_))
        refine gm_if_ne C 86 dX12_setPitch_81 (by decide) (fun c81_7 => ?_) (fun c81_7 => ?_)
        · have h := h.2 c81_7
          refine gm_iloadn C 1 1 dX12_setPitch_86 rfl rfl ?_
          refine gm_iloadn C 2 2 dX12_setPitch_87 rfl rfl ?_
          refine gm_iloadn C 3 3 dX12_setPitch_88 rfl rfl ?_
          refine gm_callS C (y := yX12_place) (as := [.int a1, .int a2, .int a3]) rfl (by decide) (by decide) (c_place l D cI cZ mo ad a1 a2 a3 t6) hy_place rfl wl_151 cu_place dX12_setPitch_89 (Nat.le_of_ble_eq_true rfl) (kP ?_)
          refine gm_nameI (fun x7 ex7 => ?_)
          have h := h x7 ex7
          refine gm_istore C [(7, .int x7), (0, .ref mo), (1, .int a1), (2, .int a2), (3, .int a3), (4, .int a4)] dX12_setPitch_92 (by decide) rfl ?_
          refine gm_aload C 1 dX12_setPitch_94 rfl ?_
          refine gm_getA C 8 (by decide) rfl wf_32 rfl dX12_setPitch_95 ?_
          refine gm_iload C 0 dX12_setPitch_98 rfl ?_
          obtain ⟨g8, h⟩ := h
          refine gm_iald C 8 (by decide) rfl g8 dX12_setPitch_100 ?_
          refine gm_nameI (fun x9 ex9 => ?_)
          have h := h x9 ex9
          refine gm_istore C [(8, .int x9), (7, .int x7), (0, .ref mo), (1, .int a1), (2, .int a2), (3, .int a3), (4, .int a4)] dX12_setPitch_101 (by decide) rfl ?_
          refine gm_aload C 2 dX12_setPitch_103 rfl ?_
          refine gm_getA C 8 (by decide) rfl wf_32 rfl dX12_setPitch_104 ?_
          refine gm_iload C 1 dX12_setPitch_107 rfl ?_
          refine gm_iload C 6 dX12_setPitch_109 rfl ?_
          obtain ⟨g10, h⟩ := h
          refine gm_iast C 8 (by decide) rfl g10 dX12_setPitch_111 ?_
          refine gm_nameT (fun t11 et11 => ?_)
          have h := h t11 et11
          refine gm_aload C 2 dX12_setPitch_112 rfl ?_
          refine gm_getA C 12 (by decide) rfl wf_44 rfl dX12_setPitch_113 ?_
          refine gm_iload C 1 dX12_setPitch_116 rfl ?_
          refine gm_aload C 2 dX12_setPitch_118 rfl ?_
          refine gm_getA C 12 (by decide) rfl wf_44 rfl dX12_setPitch_119 ?_
          refine gm_iload C 1 dX12_setPitch_122 rfl ?_
          obtain ⟨g12, h⟩ := h
          refine gm_bald C 12 (by decide) rfl g12 dX12_setPitch_124 ?_
          have k138 : ∀ x13 : Int32, x13 = (if (¬ ((mgA t11 12 x7) = 0)) ∧ (¬ (a4 ≤ 0)) then 1 else 0) → GM p l e (rmD 3) s m args below meth c 9 D cI cZ mo ad (gm_Q below D cI cZ mo ad (pI Q t) args s) t11 138 [(8, .int x9)] [.int x13, .int x7, .ref (ad 12)] := by
            intro x13 ex13
            have h := h x13 ex13
            obtain ⟨g14, h⟩ := h
            obtain ⟨g15, h⟩ := h
            refine gm_bast C 12 (by decide) rfl g14 g15 dX12_setPitch_138 ?_
            refine gm_nameT (fun t16 et16 => ?_)
            have h := h t16 et16
            refine gm_iload C 0 dX12_setPitch_139 rfl ?_
            exact gm_iret C E dX12_setPitch_141 ⟨_, rfl, h⟩
          refine gm_if_eq C 137 dX12_setPitch_125 (by decide) (fun c125_8 => ?_) (fun c125_8 => ?_)
          · refine gm_iconst C 0 dX12_setPitch_137 (by decide) ?_
            refine gm_sub [0] rfl ?_
            exact k138 _ ((if_neg (fun q0 => q0.1 c125_8)).symm)
          · refine gm_iload C 6 dX12_setPitch_128 rfl ?_
            refine gm_if_le C 137 dX12_setPitch_130 (by decide) (fun c130_9 => ?_) (fun c130_9 => ?_)
            · refine gm_iconst C 0 dX12_setPitch_137 (by decide) ?_
              refine gm_sub [0] rfl ?_
              exact k138 _ ((if_neg (fun q0 => (fun q1 => q1 c130_9) q0.2)).symm)
            · refine gm_iconst C 1 dX12_setPitch_133 (by decide) ?_
              refine gm_goto C 138 dX12_setPitch_134 (by decide) ?_
              refine gm_sub [0] rfl ?_
              exact k138 _ ((if_pos ⟨c125_8, c130_9⟩).symm)
        · have h := h.1 c81_7
          refine gm_iconst C 0 dX12_setPitch_84 (by decide) ?_
          exact gm_iret C E dX12_setPitch_85 ⟨_, rfl, h⟩
      refine gm_if_eq C 77 dX12_setPitch_54 (by decide) (fun c54_5 => ?_) (fun c54_5 => ?_)
      · refine gm_iconst C 0 dX12_setPitch_77 (by decide) ?_
        refine gm_sub [1, 2, 3, 4, 5] rfl ?_
        exact k78 _ ((if_neg (fun q0 => q0.1 c54_5)).symm)
      · refine gm_aload C 1 dX12_setPitch_57 rfl ?_
        refine gm_iloadn C 2 1 dX12_setPitch_58 rfl rfl ?_
        refine gm_iload C 5 dX12_setPitch_59 rfl ?_
        refine gm_aload C 1 dX12_setPitch_61 rfl ?_
        refine gm_getA C 13 (by decide) rfl wf_47 rfl dX12_setPitch_62 ?_
        refine gm_iloadn C 2 1 dX12_setPitch_65 rfl rfl ?_
        refine gm_iald C 13 (by decide) rfl (g5 c54_5) dX12_setPitch_66 ?_
        refine gm_callV C (y := yX12_isWritten) (as := [.int a1, .int a4, .int (mgA t 13 a1)]) rfl (by decide) (by decide) (c_isWritten l D cI cZ mo ad a1 a4 (mgA t 13 a1) t) hy_isWritten rfl wl_187 cu_isWritten dX12_setPitch_67 (Nat.le_of_ble_eq_true rfl) (kP ?_)
        refine gm_if_eq C 77 dX12_setPitch_70 (by decide) (fun c70_6 => ?_) (fun c70_6 => ?_)
        · refine gm_iconst C 0 dX12_setPitch_77 (by decide) ?_
          refine gm_sub [1, 2, 3, 4, 5] rfl ?_
          exact k78 _ ((if_neg (fun q0 => (fun q1 => q1 c70_6) q0.2)).symm)
        · refine gm_iconst C 1 dX12_setPitch_73 (by decide) ?_
          refine gm_goto C 78 dX12_setPitch_74 (by decide) ?_
          refine gm_sub [1, 2, 3, 4, 5] rfl ?_
          exact k78 _ ((if_pos ⟨c54_5, c70_6⟩).symm)
    refine gm_if_eq C 44 dX12_setPitch_27 (by decide) (fun c27_3 => ?_) (fun c27_3 => ?_)
    · refine gm_iconst C 0 dX12_setPitch_44 (by decide) ?_
      refine gm_sub [1, 2, 3, 4, 5, 0] rfl ?_
      exact k45 _ ((if_neg (fun q0 => q0.1 c27_3)).symm)
    · refine gm_aload C 1 dX12_setPitch_30 rfl ?_
      refine gm_iloadn C 2 1 dX12_setPitch_31 rfl rfl ?_
      refine gm_iloadn C 3 2 dX12_setPitch_32 rfl rfl ?_
      refine gm_iloadn C 4 3 dX12_setPitch_33 rfl rfl ?_
      refine gm_callV C (y := yX12_isEvent) (as := [.int a1, .int a2, .int a3]) rfl (by decide) (by decide) (c_isEvent l D cI cZ mo ad a1 a2 a3 t (g3 c27_3)) hy_isEvent rfl wl_198 cu_isEvent dX12_setPitch_34 (Nat.le_of_ble_eq_true rfl) (kP ?_)
      refine gm_if_eq C 44 dX12_setPitch_37 (by decide) (fun c37_4 => ?_) (fun c37_4 => ?_)
      · refine gm_iconst C 0 dX12_setPitch_44 (by decide) ?_
        refine gm_sub [1, 2, 3, 4, 5, 0] rfl ?_
        exact k45 _ ((if_neg (fun q0 => (fun q1 => q1 c37_4) q0.2)).symm)
      · refine gm_iconst C 1 dX12_setPitch_40 (by decide) ?_
        refine gm_goto C 45 dX12_setPitch_41 (by decide) ?_
        refine gm_sub [1, 2, 3, 4, 5, 0] rfl ?_
        exact k45 _ ((if_pos ⟨c27_3, c37_4⟩).symm)
  refine gm_if_eq C 22 dX12_setPitch_4 (by decide) (fun c4_1 => ?_) (fun c4_1 => ?_)
  · refine gm_iconst C 0 dX12_setPitch_22 (by decide) ?_
    exact k23 _ ((if_neg (fun q0 => q0.1 c4_1)).symm)
  · refine gm_iload C 4 dX12_setPitch_7 rfl ?_
    refine gm_iconst C 0 dX12_setPitch_9 (by decide) ?_
    refine gm_bipush C 127 dX12_setPitch_10 (by decide) ?_
    refine gm_callS C (y := yX12_in) (as := [.int a4, .int 0, .int 127]) rfl (by decide) (by decide) (c_in l D cI cZ mo ad a4 0 127 t) hy_in rfl wl_135 cu_in dX12_setPitch_12 (Nat.le_of_ble_eq_true rfl) (kP ?_)
    refine gm_if_eq C 22 dX12_setPitch_15 (by decide) (fun c15_2 => ?_) (fun c15_2 => ?_)
    · refine gm_iconst C 0 dX12_setPitch_22 (by decide) ?_
      exact k23 _ ((if_neg (fun q0 => (fun q1 => q1 c15_2) q0.2)).symm)
    · refine gm_iconst C 1 dX12_setPitch_18 (by decide) ?_
      refine gm_goto C 23 dX12_setPitch_19 (by decide) ?_
      exact k23 _ ((if_pos ⟨c4_1, c15_2⟩).symm)
def w_setTie (a1 a2 a3 a4 : Int32) (t : MS) (Q : Int32 → MS → Prop) : Prop := ∀ x1 : Int32, x1 = (v_isVoice a1) → ((¬ (x1 = 0)) → d_isEvent a1 a2 a3 t) ∧ ∀ x2 : Int32, x2 = (if (¬ (x1 = 0)) ∧ (¬ ((v_isEvent a1 a2 a3 t) = 0)) then 1 else 0) → ((¬ (x2 = 0)) → mIn 8 (v_place a1 a2 a3)) ∧ ∀ x4 : Int32, x4 = (if (¬ (x2 = 0)) ∧ (¬ ((mgA t 8 (v_place a1 a2 a3)) ≤ 0)) then 1 else 0) → w_goes x1 x2 x4 t (fun r6 t6 => ((r6 = 0) → Q 0 t6) ∧ (¬ (r6 = 0) → (mIn 12 (v_place a1 a2 a3)) ∧ ∀ x8 : Int32, x8 = (mgA t6 12 (v_place a1 a2 a3)) → (mIn 12 (v_place a1 a2 a3)) ∧ (gb a4) ∧ ∀ t11 : MS, t11 = msA t6 12 (v_place a1 a2 a3) a4 → (gb x8) ∧ Q x8 t11))
set_option maxRecDepth 20000 in
set_option maxHeartbeats 2000000 in
theorem c_setTie (l : Launch) (D : va_G) (cI cZ : ClassId) (mo : Nat) (ad : Nat → Nat) (a1 a2 a3 a4 : Int32) (t : MS) (Q : Int32 → MS → Prop) (h : w_setTie a1 a2 a3 a4 t Q) : MetM l yX12_setTie cX12_setTie 8 (some .boolean) 3 [.ref mo, .int a1, .int a2, .int a3, .int a4] (pI Q) D cI cZ mo ad t := by
  unfold w_setTie at h
  refine gm_start (by decide) rfl (Nat.le_of_ble_eq_true rfl) (fun p e s m args below meth c C E => ?_)
  refine gm_iloadn C 1 1 dX12_setTie_0 rfl rfl ?_
  refine gm_callS C (y := yX12_isVoice) (as := [.int a1]) rfl (by decide) (by decide) (c_isVoice l D cI cZ mo ad a1 t) hy_isVoice rfl wl_184 cu_isVoice dX12_setTie_1 (Nat.le_of_ble_eq_true rfl) (kP ?_)
  refine gm_nameI (fun x1 ex1 => ?_)
  have h := h x1 ex1
  refine gm_istore C [(5, .int x1), (0, .ref mo), (1, .int a1), (2, .int a2), (3, .int a3), (4, .int a4)] dX12_setTie_4 (by decide) rfl ?_
  refine gm_iload C 0 dX12_setTie_6 rfl ?_
  obtain ⟨g3, h⟩ := h
  have k26 : ∀ x2 : Int32, x2 = (if (¬ (x1 = 0)) ∧ (¬ ((v_isEvent a1 a2 a3 t) = 0)) then 1 else 0) → GM p l e (rmD 3) s m args below meth c 8 D cI cZ mo ad (gm_Q below D cI cZ mo ad (pI Q t) args s) t 26 [(0, .ref mo), (1, .int a1), (2, .int a2), (3, .int a3), (4, .int a4), (5, .int x1)] [.int x2] := by
    intro x2 ex2
    have h := h x2 ex2
    refine gm_istore C [(6, .int x2), (0, .ref mo), (1, .int a1), (2, .int a2), (3, .int a3), (4, .int a4), (5, .int x1)] dX12_setTie_26 (by decide) rfl ?_
    refine gm_aload C 1 dX12_setTie_28 rfl ?_
    refine gm_iload C 6 dX12_setTie_29 rfl ?_
    refine gm_iload C 0 dX12_setTie_31 rfl ?_
    refine gm_iload C 0 dX12_setTie_33 rfl ?_
    obtain ⟨g5, h⟩ := h
    have k57 : ∀ x4 : Int32, x4 = (if (¬ (x2 = 0)) ∧ (¬ ((mgA t 8 (v_place a1 a2 a3)) ≤ 0)) then 1 else 0) → GM p l e (rmD 3) s m args below meth c 8 D cI cZ mo ad (gm_Q below D cI cZ mo ad (pI Q t) args s) t 57 [(0, .ref mo), (1, .int a1), (2, .int a2), (3, .int a3), (4, .int a4)] [.int x4, .int x2, .int x1, .ref mo] := by
      intro x4 ex4
      have h := h x4 ex4
      refine gm_callV C (y := yX12_goes) (as := [.int x1, .int x2, .int x4]) rfl (by decide) (by decide) (c_goes l D cI cZ mo ad x1 x2 x4 t _ h) hy_goes rfl wl_165 cu_goes dX12_setTie_57 (Nat.le_of_ble_eq_true rfl) (kI (fun r6 t6 h => ?_))
      refine gm_if_ne C 65 dX12_setTie_60 (by decide) (fun c60_5 => ?_) (fun c60_5 => ?_)
      · have h := h.2 c60_5
        refine gm_aload C 0 dX12_setTie_65 rfl ?_
        refine gm_getA C 12 (by decide) rfl wf_44 rfl dX12_setTie_66 ?_
        refine gm_iloadn C 1 1 dX12_setTie_69 rfl rfl ?_
        refine gm_iloadn C 2 2 dX12_setTie_70 rfl rfl ?_
        refine gm_iloadn C 3 3 dX12_setTie_71 rfl rfl ?_
        refine gm_callS C (y := yX12_place) (as := [.int a1, .int a2, .int a3]) rfl (by decide) (by decide) (c_place l D cI cZ mo ad a1 a2 a3 t6) hy_place rfl wl_151 cu_place dX12_setTie_72 (Nat.le_of_ble_eq_true rfl) (kP ?_)
        obtain ⟨g7, h⟩ := h
        refine gm_bald C 12 (by decide) rfl g7 dX12_setTie_75 ?_
        refine gm_nameI (fun x8 ex8 => ?_)
        have h := h x8 ex8
        refine gm_istore C [(7, .int x8), (0, .ref mo), (1, .int a1), (2, .int a2), (3, .int a3), (4, .int a4)] dX12_setTie_76 (by decide) rfl ?_
        refine gm_aload C 1 dX12_setTie_78 rfl ?_
        refine gm_getA C 12 (by decide) rfl wf_44 rfl dX12_setTie_79 ?_
        refine gm_iloadn C 2 1 dX12_setTie_82 rfl rfl ?_
        refine gm_iloadn C 3 2 dX12_setTie_83 rfl rfl ?_
        refine gm_iloadn C 4 3 dX12_setTie_84 rfl rfl ?_
        refine gm_callS C (y := yX12_place) (as := [.int a1, .int a2, .int a3]) rfl (by decide) (by decide) (c_place l D cI cZ mo ad a1 a2 a3 t6) hy_place rfl wl_151 cu_place dX12_setTie_85 (Nat.le_of_ble_eq_true rfl) (kP ?_)
        refine gm_iload C 5 dX12_setTie_88 rfl ?_
        obtain ⟨g9, h⟩ := h
        obtain ⟨g10, h⟩ := h
        refine gm_bast C 12 (by decide) rfl g9 g10 dX12_setTie_90 ?_
        refine gm_nameT (fun t11 et11 => ?_)
        have h := h t11 et11
        refine gm_iload C 0 dX12_setTie_91 rfl ?_
        obtain ⟨g12, h⟩ := h
        exact gm_zret C E g12 dX12_setTie_93 ⟨_, rfl, h⟩
      · have h := h.1 c60_5
        refine gm_iconst C 0 dX12_setTie_63 (by decide) ?_
        exact gm_zret C E (Or.inl rfl) dX12_setTie_64 ⟨_, rfl, h⟩
    refine gm_if_eq C 56 dX12_setTie_35 (by decide) (fun c35_3 => ?_) (fun c35_3 => ?_)
    · refine gm_iconst C 0 dX12_setTie_56 (by decide) ?_
      refine gm_sub [1, 2, 3, 4, 5] rfl ?_
      exact k57 _ ((if_neg (fun q0 => q0.1 c35_3)).symm)
    · refine gm_aload C 1 dX12_setTie_38 rfl ?_
      refine gm_getA C 8 (by decide) rfl wf_32 rfl dX12_setTie_39 ?_
      refine gm_iloadn C 2 1 dX12_setTie_42 rfl rfl ?_
      refine gm_iloadn C 3 2 dX12_setTie_43 rfl rfl ?_
      refine gm_iloadn C 4 3 dX12_setTie_44 rfl rfl ?_
      refine gm_callS C (y := yX12_place) (as := [.int a1, .int a2, .int a3]) rfl (by decide) (by decide) (c_place l D cI cZ mo ad a1 a2 a3 t) hy_place rfl wl_151 cu_place dX12_setTie_45 (Nat.le_of_ble_eq_true rfl) (kP ?_)
      refine gm_iald C 8 (by decide) rfl (g5 c35_3) dX12_setTie_48 ?_
      refine gm_if_le C 56 dX12_setTie_49 (by decide) (fun c49_4 => ?_) (fun c49_4 => ?_)
      · refine gm_iconst C 0 dX12_setTie_56 (by decide) ?_
        refine gm_sub [1, 2, 3, 4, 5] rfl ?_
        exact k57 _ ((if_neg (fun q0 => (fun q1 => q1 c49_4) q0.2)).symm)
      · refine gm_iconst C 1 dX12_setTie_52 (by decide) ?_
        refine gm_goto C 57 dX12_setTie_53 (by decide) ?_
        refine gm_sub [1, 2, 3, 4, 5] rfl ?_
        exact k57 _ ((if_pos ⟨c35_3, c49_4⟩).symm)
  refine gm_if_eq C 25 dX12_setTie_8 (by decide) (fun c8_1 => ?_) (fun c8_1 => ?_)
  · refine gm_iconst C 0 dX12_setTie_25 (by decide) ?_
    refine gm_sub [1, 2, 3, 4, 5, 0] rfl ?_
    exact k26 _ ((if_neg (fun q0 => q0.1 c8_1)).symm)
  · refine gm_aload C 1 dX12_setTie_11 rfl ?_
    refine gm_iloadn C 2 1 dX12_setTie_12 rfl rfl ?_
    refine gm_iloadn C 3 2 dX12_setTie_13 rfl rfl ?_
    refine gm_iloadn C 4 3 dX12_setTie_14 rfl rfl ?_
    refine gm_callV C (y := yX12_isEvent) (as := [.int a1, .int a2, .int a3]) rfl (by decide) (by decide) (c_isEvent l D cI cZ mo ad a1 a2 a3 t (g3 c8_1)) hy_isEvent rfl wl_198 cu_isEvent dX12_setTie_15 (Nat.le_of_ble_eq_true rfl) (kP ?_)
    refine gm_if_eq C 25 dX12_setTie_18 (by decide) (fun c18_2 => ?_) (fun c18_2 => ?_)
    · refine gm_iconst C 0 dX12_setTie_25 (by decide) ?_
      refine gm_sub [1, 2, 3, 4, 5, 0] rfl ?_
      exact k26 _ ((if_neg (fun q0 => (fun q1 => q1 c18_2) q0.2)).symm)
    · refine gm_iconst C 1 dX12_setTie_21 (by decide) ?_
      refine gm_goto C 26 dX12_setTie_22 (by decide) ?_
      refine gm_sub [1, 2, 3, 4, 5, 0] rfl ?_
      exact k26 _ ((if_pos ⟨c8_1, c18_2⟩).symm)
def w_setMark (a1 a2 a3 a4 : Int32) (t : MS) (Q : Int32 → MS → Prop) : Prop := ∀ x1 : Int32, x1 = (if (¬ ((v_isVoice a1) = 0)) ∧ (¬ ((v_in a4 (-1) 5) = 0)) then 1 else 0) → ((¬ (x1 = 0)) → d_isEvent a1 a2 a3 t) ∧ ∀ x2 : Int32, x2 = (if (¬ (x1 = 0)) ∧ (¬ ((v_isEvent a1 a2 a3 t) = 0)) then 1 else 0) → w_goes x1 x2 1 t (fun r4 t4 => ((r4 = 0) → Q 0 t4) ∧ (¬ (r4 = 0) → (mIn 11 (v_place a1 a2 a3)) ∧ ∀ x6 : Int32, x6 = (mgA t4 11 (v_place a1 a2 a3)) → (mIn 11 (v_place a1 a2 a3)) ∧ ∀ t8 : MS, t8 = msA t4 11 (v_place a1 a2 a3) a4 → Q x6 t8))
set_option maxRecDepth 20000 in
set_option maxHeartbeats 2000000 in
theorem c_setMark (l : Launch) (D : va_G) (cI cZ : ClassId) (mo : Nat) (ad : Nat → Nat) (a1 a2 a3 a4 : Int32) (t : MS) (Q : Int32 → MS → Prop) (h : w_setMark a1 a2 a3 a4 t Q) : MetM l yX12_setMark cX12_setMark 7 (some .int) 3 [.ref mo, .int a1, .int a2, .int a3, .int a4] (pI Q) D cI cZ mo ad t := by
  unfold w_setMark at h
  refine gm_start (by decide) rfl (Nat.le_of_ble_eq_true rfl) (fun p e s m args below meth c C E => ?_)
  refine gm_iloadn C 1 1 dX12_setMark_0 rfl rfl ?_
  refine gm_callS C (y := yX12_isVoice) (as := [.int a1]) rfl (by decide) (by decide) (c_isVoice l D cI cZ mo ad a1 t) hy_isVoice rfl wl_184 cu_isVoice dX12_setMark_1 (Nat.le_of_ble_eq_true rfl) (kP ?_)
  have k22 : ∀ x1 : Int32, x1 = (if (¬ ((v_isVoice a1) = 0)) ∧ (¬ ((v_in a4 (-1) 5) = 0)) then 1 else 0) → GM p l e (rmD 3) s m args below meth c 7 D cI cZ mo ad (gm_Q below D cI cZ mo ad (pI Q t) args s) t 22 [(0, .ref mo), (1, .int a1), (2, .int a2), (3, .int a3), (4, .int a4)] [.int x1] := by
    intro x1 ex1
    have h := h x1 ex1
    refine gm_istore C [(5, .int x1), (0, .ref mo), (1, .int a1), (2, .int a2), (3, .int a3), (4, .int a4)] dX12_setMark_22 (by decide) rfl ?_
    refine gm_aload C 1 dX12_setMark_24 rfl ?_
    refine gm_iload C 0 dX12_setMark_25 rfl ?_
    refine gm_iload C 0 dX12_setMark_27 rfl ?_
    obtain ⟨g3, h⟩ := h
    have k47 : ∀ x2 : Int32, x2 = (if (¬ (x1 = 0)) ∧ (¬ ((v_isEvent a1 a2 a3 t) = 0)) then 1 else 0) → GM p l e (rmD 3) s m args below meth c 7 D cI cZ mo ad (gm_Q below D cI cZ mo ad (pI Q t) args s) t 47 [(0, .ref mo), (1, .int a1), (2, .int a2), (3, .int a3), (4, .int a4)] [.int x2, .int x1, .ref mo] := by
      intro x2 ex2
      have h := h x2 ex2
      refine gm_iconst C 1 dX12_setMark_47 (by decide) ?_
      refine gm_callV C (y := yX12_goes) (as := [.int x1, .int x2, .int 1]) rfl (by decide) (by decide) (c_goes l D cI cZ mo ad x1 x2 1 t _ h) hy_goes rfl wl_165 cu_goes dX12_setMark_48 (Nat.le_of_ble_eq_true rfl) (kI (fun r4 t4 h => ?_))
      refine gm_if_ne C 56 dX12_setMark_51 (by decide) (fun c51_5 => ?_) (fun c51_5 => ?_)
      · have h := h.2 c51_5
        refine gm_aload C 0 dX12_setMark_56 rfl ?_
        refine gm_getA C 11 (by decide) rfl wf_41 rfl dX12_setMark_57 ?_
        refine gm_iloadn C 1 1 dX12_setMark_60 rfl rfl ?_
        refine gm_iloadn C 2 2 dX12_setMark_61 rfl rfl ?_
        refine gm_iloadn C 3 3 dX12_setMark_62 rfl rfl ?_
        refine gm_callS C (y := yX12_place) (as := [.int a1, .int a2, .int a3]) rfl (by decide) (by decide) (c_place l D cI cZ mo ad a1 a2 a3 t4) hy_place rfl wl_151 cu_place dX12_setMark_63 (Nat.le_of_ble_eq_true rfl) (kP ?_)
        obtain ⟨g5, h⟩ := h
        refine gm_iald C 11 (by decide) rfl g5 dX12_setMark_66 ?_
        refine gm_nameI (fun x6 ex6 => ?_)
        have h := h x6 ex6
        refine gm_istore C [(6, .int x6), (0, .ref mo), (1, .int a1), (2, .int a2), (3, .int a3), (4, .int a4)] dX12_setMark_67 (by decide) rfl ?_
        refine gm_aload C 1 dX12_setMark_69 rfl ?_
        refine gm_getA C 11 (by decide) rfl wf_41 rfl dX12_setMark_70 ?_
        refine gm_iloadn C 2 1 dX12_setMark_73 rfl rfl ?_
        refine gm_iloadn C 3 2 dX12_setMark_74 rfl rfl ?_
        refine gm_iloadn C 4 3 dX12_setMark_75 rfl rfl ?_
        refine gm_callS C (y := yX12_place) (as := [.int a1, .int a2, .int a3]) rfl (by decide) (by decide) (c_place l D cI cZ mo ad a1 a2 a3 t4) hy_place rfl wl_151 cu_place dX12_setMark_76 (Nat.le_of_ble_eq_true rfl) (kP ?_)
        refine gm_iload C 5 dX12_setMark_79 rfl ?_
        obtain ⟨g7, h⟩ := h
        refine gm_iast C 11 (by decide) rfl g7 dX12_setMark_81 ?_
        refine gm_nameT (fun t8 et8 => ?_)
        have h := h t8 et8
        refine gm_iload C 0 dX12_setMark_82 rfl ?_
        exact gm_iret C E dX12_setMark_84 ⟨_, rfl, h⟩
      · have h := h.1 c51_5
        refine gm_iconst C 0 dX12_setMark_54 (by decide) ?_
        exact gm_iret C E dX12_setMark_55 ⟨_, rfl, h⟩
    refine gm_if_eq C 46 dX12_setMark_29 (by decide) (fun c29_3 => ?_) (fun c29_3 => ?_)
    · refine gm_iconst C 0 dX12_setMark_46 (by decide) ?_
      refine gm_sub [1, 2, 3, 4, 5] rfl ?_
      exact k47 _ ((if_neg (fun q0 => q0.1 c29_3)).symm)
    · refine gm_aload C 1 dX12_setMark_32 rfl ?_
      refine gm_iloadn C 2 1 dX12_setMark_33 rfl rfl ?_
      refine gm_iloadn C 3 2 dX12_setMark_34 rfl rfl ?_
      refine gm_iloadn C 4 3 dX12_setMark_35 rfl rfl ?_
      refine gm_callV C (y := yX12_isEvent) (as := [.int a1, .int a2, .int a3]) rfl (by decide) (by decide) (c_isEvent l D cI cZ mo ad a1 a2 a3 t (g3 c29_3)) hy_isEvent rfl wl_198 cu_isEvent dX12_setMark_36 (Nat.le_of_ble_eq_true rfl) (kP ?_)
      refine gm_if_eq C 46 dX12_setMark_39 (by decide) (fun c39_4 => ?_) (fun c39_4 => ?_)
      · refine gm_iconst C 0 dX12_setMark_46 (by decide) ?_
        refine gm_sub [1, 2, 3, 4, 5] rfl ?_
        exact k47 _ ((if_neg (fun q0 => (fun q1 => q1 c39_4) q0.2)).symm)
      · refine gm_iconst C 1 dX12_setMark_42 (by decide) ?_
        refine gm_goto C 47 dX12_setMark_43 (by decide) ?_
        refine gm_sub [1, 2, 3, 4, 5] rfl ?_
        exact k47 _ ((if_pos ⟨c29_3, c39_4⟩).symm)
  refine gm_if_eq C 21 dX12_setMark_4 (by decide) (fun c4_1 => ?_) (fun c4_1 => ?_)
  · refine gm_iconst C 0 dX12_setMark_21 (by decide) ?_
    exact k22 _ ((if_neg (fun q0 => q0.1 c4_1)).symm)
  · refine gm_iload C 4 dX12_setMark_7 rfl ?_
    refine gm_iconst C (-1) dX12_setMark_9 (by decide) ?_
    refine gm_iconst C 5 dX12_setMark_10 (by decide) ?_
    refine gm_callS C (y := yX12_in) (as := [.int a4, .int (-1), .int 5]) rfl (by decide) (by decide) (c_in l D cI cZ mo ad a4 (-1) 5 t) hy_in rfl wl_135 cu_in dX12_setMark_11 (Nat.le_of_ble_eq_true rfl) (kP ?_)
    refine gm_if_eq C 21 dX12_setMark_14 (by decide) (fun c14_2 => ?_) (fun c14_2 => ?_)
    · refine gm_iconst C 0 dX12_setMark_21 (by decide) ?_
      exact k22 _ ((if_neg (fun q0 => (fun q1 => q1 c14_2) q0.2)).symm)
    · refine gm_iconst C 1 dX12_setMark_17 (by decide) ?_
      refine gm_goto C 22 dX12_setMark_18 (by decide) ?_
      exact k22 _ ((if_pos ⟨c4_1, c14_2⟩).symm)
def w_transpose_L30 (a1 : Int32) (a2 : Int32) (t : MS) (Q : Int32 → MS → Prop) (x1 : Int32) (K30 : (Int32 × Int32) → Prop) (z30 : Int32 × Int32) : Prop := (((384 ≤ z30.2) ∨ (z30.1 = 0)) → w_goes x1 z30.1 1 t (fun r2 t2 => ((r2 = 0) → Q 0 t2) ∧ (¬ (r2 = 0) → (mIn 13 a1) ∧ ∀ x4 : Int32, x4 = (mgA t2 13 a1) → (mIn 13 a1) ∧ ∀ t6 : MS, t6 = msA t2 13 a1 a2 → Q x4 t6))) ∧ (¬ ((384 ≤ z30.2) ∨ (z30.1 = 0)) → ∀ x7 : Int32, x7 = (z30.2 / 16) → ((¬ ((mgI t 0) ≤ x7)) → mIn 6 (v_at a1 x7)) ∧ ((¬ ((mgI t 0) ≤ x7)) → (¬ ((mgA t 6 (v_at a1 x7)) ≤ (mRem z30.2 16))) → mIn 8 (v_place a1 x7 (mRem z30.2 16))) ∧ ∀ x8 : Int32, x8 = (if ((mgI t 0) ≤ x7) ∨ (((mgA t 6 (v_at a1 x7)) ≤ (mRem z30.2 16)) ∨ (¬ ((v_isWritten a1 (mgA t 8 (v_place a1 x7 (mRem z30.2 16))) a2) = 0))) then 1 else 0) → K30 (x8, (z30.2 + 1)))
def w_transpose (a1 a2 : Int32) (t : MS) (Q : Int32 → MS → Prop) : Prop := ∀ x1 : Int32, x1 = (if (¬ ((v_isVoice a1) = 0)) ∧ (¬ ((v_in a2 (-12) 12) = 0)) then 1 else 0) → ∃ n, lp (w_transpose_L30 a1 a2 t Q x1) n (x1, 0)
set_option maxRecDepth 20000 in
set_option maxHeartbeats 2000000 in
theorem c_transpose (l : Launch) (D : va_G) (cI cZ : ClassId) (mo : Nat) (ad : Nat → Nat) (a1 a2 : Int32) (t : MS) (Q : Int32 → MS → Prop) (h : w_transpose a1 a2 t Q) : MetM l yX12_transpose cX12_transpose 7 (some .int) 2 [.ref mo, .int a1, .int a2] (pI Q) D cI cZ mo ad t := by
  unfold w_transpose at h
  refine gm_start (by decide) rfl (Nat.le_of_ble_eq_true rfl) (fun p e s m args below meth c C E => ?_)
  refine gm_iloadn C 1 1 dX12_transpose_0 rfl rfl ?_
  refine gm_callS C (y := yX12_isVoice) (as := [.int a1]) rfl (by decide) (by decide) (c_isVoice l D cI cZ mo ad a1 t) hy_isVoice rfl wl_184 cu_isVoice dX12_transpose_1 (Nat.le_of_ble_eq_true rfl) (kP ?_)
  have k23 : ∀ x1 : Int32, x1 = (if (¬ ((v_isVoice a1) = 0)) ∧ (¬ ((v_in a2 (-12) 12) = 0)) then 1 else 0) → GM p l e (rmD 2) s m args below meth c 7 D cI cZ mo ad (gm_Q below D cI cZ mo ad (pI Q t) args s) t 23 [(0, .ref mo), (1, .int a1), (2, .int a2)] [.int x1] := by
    intro x1 ex1
    have h := h x1 ex1
    refine gm_istoren C 3 [(3, .int x1), (0, .ref mo), (1, .int a1), (2, .int a2)] dX12_transpose_23 rfl (by decide) rfl ?_
    refine gm_iloadn C 0 3 dX12_transpose_24 rfl rfl ?_
    refine gm_istore C [(4, .int x1), (3, .int x1), (0, .ref mo), (1, .int a1), (2, .int a2)] dX12_transpose_25 (by decide) rfl ?_
    refine gm_iconst C 0 dX12_transpose_27 (by decide) ?_
    refine gm_istore C [(5, .int 0), (4, .int x1), (3, .int x1), (0, .ref mo), (1, .int a1), (2, .int a2)] dX12_transpose_28 (by decide) rfl ?_
    refine gm_sub [3, 4, 5, 2, 1, 0] rfl ?_
    obtain ⟨n30, h⟩ := h
    have k30 : ∀ (n30 : Nat) (z30 : Int32 × Int32), lp (w_transpose_L30 a1 a2 t Q x1) n30 z30 → GM p l e (rmD 2) s m args below meth c 7 D cI cZ mo ad (gm_Q below D cI cZ mo ad (pI Q t) args s) t 30 [(0, .ref mo), (1, .int a1), (2, .int a2), (3, .int x1), (4, .int z30.1), (5, .int z30.2)] [] := by
      intro n30
      induction n30 with
      | zero => intro z30 h; exact h.elim
      | succ n30 ih30 =>
        intro z30 h
        have h : w_transpose_L30 a1 a2 t Q x1 (lp (w_transpose_L30 a1 a2 t Q x1) n30) z30 := h
        unfold w_transpose_L30 at h
        refine gm_iload C 5 dX12_transpose_30 rfl ?_
        refine gm_sipush C 384 dX12_transpose_32 (by decide) ?_
        have kt30 : ((384 ≤ z30.2) ∨ (z30.1 = 0)) → GM p l e (rmD 2) s m args below meth c 7 D cI cZ mo ad (gm_Q below D cI cZ mo ad (pI Q t) args s) t 116 [(0, .ref mo), (1, .int a1), (2, .int a2), (3, .int x1), (4, .int z30.1), (5, .int z30.2)] [] := by
          intro hc
          have h := h.1 hc
          refine gm_aload C 0 dX12_transpose_116 rfl ?_
          refine gm_iloadn C 3 3 dX12_transpose_117 rfl rfl ?_
          refine gm_iload C 4 dX12_transpose_118 rfl ?_
          refine gm_iconst C 1 dX12_transpose_120 (by decide) ?_
          refine gm_callV C (y := yX12_goes) (as := [.int x1, .int z30.1, .int 1]) rfl (by decide) (by decide) (c_goes l D cI cZ mo ad x1 z30.1 1 t _ h) hy_goes rfl wl_165 cu_goes dX12_transpose_121 (Nat.le_of_ble_eq_true rfl) (kI (fun r2 t2 h => ?_))
          refine gm_if_ne C 129 dX12_transpose_124 (by decide) (fun c124_5 => ?_) (fun c124_5 => ?_)
          · have h := h.2 c124_5
            refine gm_aload C 0 dX12_transpose_129 rfl ?_
            refine gm_getA C 13 (by decide) rfl wf_47 rfl dX12_transpose_130 ?_
            refine gm_iloadn C 1 1 dX12_transpose_133 rfl rfl ?_
            obtain ⟨g3, h⟩ := h
            refine gm_iald C 13 (by decide) rfl g3 dX12_transpose_134 ?_
            refine gm_nameI (fun x4 ex4 => ?_)
            have h := h x4 ex4
            refine gm_istore C [(5, .int x4), (0, .ref mo), (1, .int a1), (2, .int a2), (3, .int x1), (4, .int z30.1)] dX12_transpose_135 (by decide) rfl ?_
            refine gm_aload C 1 dX12_transpose_137 rfl ?_
            refine gm_getA C 13 (by decide) rfl wf_47 rfl dX12_transpose_138 ?_
            refine gm_iloadn C 2 1 dX12_transpose_141 rfl rfl ?_
            refine gm_iloadn C 3 2 dX12_transpose_142 rfl rfl ?_
            obtain ⟨g5, h⟩ := h
            refine gm_iast C 13 (by decide) rfl g5 dX12_transpose_143 ?_
            refine gm_nameT (fun t6 et6 => ?_)
            have h := h t6 et6
            refine gm_iload C 0 dX12_transpose_144 rfl ?_
            exact gm_iret C E dX12_transpose_146 ⟨_, rfl, h⟩
          · have h := h.1 c124_5
            refine gm_iconst C 0 dX12_transpose_127 (by decide) ?_
            exact gm_iret C E dX12_transpose_128 ⟨_, rfl, h⟩
        have kf30 : ¬ ((384 ≤ z30.2) ∨ (z30.1 = 0)) → GM p l e (rmD 2) s m args below meth c 7 D cI cZ mo ad (gm_Q below D cI cZ mo ad (pI Q t) args s) t 43 [(0, .ref mo), (1, .int a1), (2, .int a2), (3, .int x1), (4, .int z30.1), (5, .int z30.2)] [] := by
          intro hc
          have h := h.2 hc
          refine gm_iload C 5 dX12_transpose_43 rfl ?_
          refine gm_bipush C 16 dX12_transpose_45 (by decide) ?_
          refine gm_idiv C dX12_transpose_47 (by decide) ?_
          refine gm_nameI (fun x7 ex7 => ?_)
          have h := h x7 ex7
          refine gm_istore C [(6, .int x7), (0, .ref mo), (1, .int a1), (2, .int a2), (3, .int x1), (4, .int z30.1), (5, .int z30.2)] dX12_transpose_48 (by decide) rfl ?_
          refine gm_iload C 0 dX12_transpose_50 rfl ?_
          refine gm_aload C 1 dX12_transpose_52 rfl ?_
          refine gm_getI C 0 (by decide) rfl wf_132 rfl dX12_transpose_53 ?_
          obtain ⟨g9, h⟩ := h
          obtain ⟨g10, h⟩ := h
          have k108 : ∀ x8 : Int32, x8 = (if ((mgI t 0) ≤ x7) ∨ (((mgA t 6 (v_at a1 x7)) ≤ (mRem z30.2 16)) ∨ (¬ ((v_isWritten a1 (mgA t 8 (v_place a1 x7 (mRem z30.2 16))) a2) = 0))) then 1 else 0) → GM p l e (rmD 2) s m args below meth c 7 D cI cZ mo ad (gm_Q below D cI cZ mo ad (pI Q t) args s) t 108 [(0, .ref mo), (1, .int a1), (2, .int a2), (3, .int x1), (5, .int z30.2)] [.int x8] := by
            intro x8 ex8
            have h := h x8 ex8
            refine gm_istore C [(4, .int x8), (0, .ref mo), (1, .int a1), (2, .int a2), (3, .int x1), (5, .int z30.2)] dX12_transpose_108 (by decide) rfl ?_
            refine gm_iinc C 5 (z30.2 + 1) [(5, .int (z30.2 + 1)), (4, .int x8), (0, .ref mo), (1, .int a1), (2, .int a2), (3, .int x1)] dX12_transpose_110 rfl rfl (by decide) rfl ?_
            refine gm_goto C 30 dX12_transpose_113 (by decide) ?_
            refine gm_sub [2, 3, 4, 5, 1, 0] rfl ?_
            have h9 := ih30 (x8, (z30.2 + 1)) h
            exact h9
          refine gm_icmp_ge C 103 dX12_transpose_56 (by decide) (fun c56_6 => ?_) (fun c56_6 => ?_)
          · refine gm_iconst C 1 dX12_transpose_103 (by decide) ?_
            refine gm_goto C 108 dX12_transpose_104 (by decide) ?_
            refine gm_sub [1, 2, 3, 4, 6] rfl ?_
            exact k108 _ ((if_pos (Or.inl c56_6)).symm)
          · refine gm_iload C 6 dX12_transpose_59 rfl ?_
            refine gm_bipush C 16 dX12_transpose_61 (by decide) ?_
            refine gm_irem C dX12_transpose_63 (by decide) ?_
            refine gm_aload C 1 dX12_transpose_64 rfl ?_
            refine gm_getA C 6 (by decide) rfl wf_25 rfl dX12_transpose_65 ?_
            refine gm_iloadn C 2 1 dX12_transpose_68 rfl rfl ?_
            refine gm_iload C 0 dX12_transpose_69 rfl ?_
            refine gm_callS C (y := yX12_at) (as := [.int a1, .int x7]) rfl (by decide) (by decide) (c_at l D cI cZ mo ad a1 x7 t) hy_at rfl wl_139 cu_at dX12_transpose_71 (Nat.le_of_ble_eq_true rfl) (kP ?_)
            refine gm_iald C 6 (by decide) rfl (g9 c56_6) dX12_transpose_74 ?_
            refine gm_icmp_ge C 103 dX12_transpose_75 (by decide) (fun c75_7 => ?_) (fun c75_7 => ?_)
            · refine gm_iconst C 1 dX12_transpose_103 (by decide) ?_
              refine gm_goto C 108 dX12_transpose_104 (by decide) ?_
              refine gm_sub [1, 2, 3, 4, 6] rfl ?_
              exact k108 _ ((if_pos (Or.inr (Or.inl c75_7))).symm)
            · refine gm_aload C 1 dX12_transpose_78 rfl ?_
              refine gm_iloadn C 2 1 dX12_transpose_79 rfl rfl ?_
              refine gm_aload C 1 dX12_transpose_80 rfl ?_
              refine gm_getA C 8 (by decide) rfl wf_32 rfl dX12_transpose_81 ?_
              refine gm_iloadn C 2 1 dX12_transpose_84 rfl rfl ?_
              refine gm_iload C 0 dX12_transpose_85 rfl ?_
              refine gm_iload C 6 dX12_transpose_87 rfl ?_
              refine gm_bipush C 16 dX12_transpose_89 (by decide) ?_
              refine gm_irem C dX12_transpose_91 (by decide) ?_
              refine gm_callS C (y := yX12_place) (as := [.int a1, .int x7, .int (mRem z30.2 16)]) rfl (by decide) (by decide) (c_place l D cI cZ mo ad a1 x7 (mRem z30.2 16) t) hy_place rfl wl_151 cu_place dX12_transpose_92 (Nat.le_of_ble_eq_true rfl) (kP ?_)
              refine gm_iald C 8 (by decide) rfl (g10 c56_6 c75_7) dX12_transpose_95 ?_
              refine gm_iloadn C 3 2 dX12_transpose_96 rfl rfl ?_
              refine gm_callV C (y := yX12_isWritten) (as := [.int a1, .int (mgA t 8 (v_place a1 x7 (mRem z30.2 16))), .int a2]) rfl (by decide) (by decide) (c_isWritten l D cI cZ mo ad a1 (mgA t 8 (v_place a1 x7 (mRem z30.2 16))) a2 t) hy_isWritten rfl wl_187 cu_isWritten dX12_transpose_97 (Nat.le_of_ble_eq_true rfl) (kP ?_)
              refine gm_if_eq C 107 dX12_transpose_100 (by decide) (fun c100_8 => ?_) (fun c100_8 => ?_)
              · refine gm_iconst C 0 dX12_transpose_107 (by decide) ?_
                refine gm_sub [1, 2, 3, 4, 6] rfl ?_
                exact k108 _ ((if_neg (fun q0 => Or.elim q0 c56_6 (fun q1 => Or.elim q1 c75_7 (fun q2 => q2 c100_8)))).symm)
              · refine gm_iconst C 1 dX12_transpose_103 (by decide) ?_
                refine gm_goto C 108 dX12_transpose_104 (by decide) ?_
                refine gm_sub [1, 2, 3, 4, 6] rfl ?_
                exact k108 _ ((if_pos (Or.inr (Or.inr c100_8))).symm)
        refine gm_icmp_ge C 116 dX12_transpose_35 (by decide) (fun c35_3 => ?_) (fun c35_3 => ?_)
        · exact kt30 (Or.inl c35_3)
        · refine gm_iload C 4 dX12_transpose_38 rfl ?_
          refine gm_if_eq C 116 dX12_transpose_40 (by decide) (fun c40_4 => ?_) (fun c40_4 => ?_)
          · exact kt30 (Or.inr c40_4)
          · exact kf30 (fun q0 => Or.elim q0 c35_3 c40_4)
    exact k30 n30 (x1, 0) h
  refine gm_if_eq C 22 dX12_transpose_4 (by decide) (fun c4_1 => ?_) (fun c4_1 => ?_)
  · refine gm_iconst C 0 dX12_transpose_22 (by decide) ?_
    exact k23 _ ((if_neg (fun q0 => q0.1 c4_1)).symm)
  · refine gm_iloadn C 2 2 dX12_transpose_7 rfl rfl ?_
    refine gm_bipush C (-12) dX12_transpose_8 (by decide) ?_
    refine gm_bipush C 12 dX12_transpose_10 (by decide) ?_
    refine gm_callS C (y := yX12_in) (as := [.int a2, .int (-12), .int 12]) rfl (by decide) (by decide) (c_in l D cI cZ mo ad a2 (-12) 12 t) hy_in rfl wl_135 cu_in dX12_transpose_12 (Nat.le_of_ble_eq_true rfl) (kP ?_)
    refine gm_if_eq C 22 dX12_transpose_15 (by decide) (fun c15_2 => ?_) (fun c15_2 => ?_)
    · refine gm_iconst C 0 dX12_transpose_22 (by decide) ?_
      exact k23 _ ((if_neg (fun q0 => (fun q1 => q1 c15_2) q0.2)).symm)
    · refine gm_iconst C 1 dX12_transpose_18 (by decide) ?_
      refine gm_goto C 23 dX12_transpose_19 (by decide) ?_
      exact k23 _ ((if_pos ⟨c4_1, c15_2⟩).symm)
def w_events (a1 a2 : Int32) (t : MS) (Q : Int32 → MS → Prop) : Prop := ∀ x1 : Int32, x1 = (v_isVoice a1) → w_goes x1 (v_isBar a2 t) 1 t (fun r2 t2 => ((¬ (r2 = 0)) → mIn 6 (v_at a1 a2)) ∧ ∀ x3 : Int32, x3 = (if r2 = 0 then 0 else (mgA t2 6 (v_at a1 a2))) → Q x3 t2)
set_option maxRecDepth 20000 in
set_option maxHeartbeats 2000000 in
theorem c_events (l : Launch) (D : va_G) (cI cZ : ClassId) (mo : Nat) (ad : Nat → Nat) (a1 a2 : Int32) (t : MS) (Q : Int32 → MS → Prop) (h : w_events a1 a2 t Q) : MetM l yX12_events cX12_events 4 (some .int) 2 [.ref mo, .int a1, .int a2] (pI Q) D cI cZ mo ad t := by
  unfold w_events at h
  refine gm_start (by decide) rfl (Nat.le_of_ble_eq_true rfl) (fun p e s m args below meth c C E => ?_)
  refine gm_iloadn C 1 1 dX12_events_0 rfl rfl ?_
  refine gm_callS C (y := yX12_isVoice) (as := [.int a1]) rfl (by decide) (by decide) (c_isVoice l D cI cZ mo ad a1 t) hy_isVoice rfl wl_184 cu_isVoice dX12_events_1 (Nat.le_of_ble_eq_true rfl) (kP ?_)
  refine gm_nameI (fun x1 ex1 => ?_)
  have h := h x1 ex1
  refine gm_istoren C 3 [(3, .int x1), (0, .ref mo), (1, .int a1), (2, .int a2)] dX12_events_4 rfl (by decide) rfl ?_
  refine gm_aload C 1 dX12_events_5 rfl ?_
  refine gm_iloadn C 0 3 dX12_events_6 rfl rfl ?_
  refine gm_aload C 1 dX12_events_7 rfl ?_
  refine gm_iloadn C 3 2 dX12_events_8 rfl rfl ?_
  refine gm_callV C (y := yX12_isBar) (as := [.int a2]) rfl (by decide) (by decide) (c_isBar l D cI cZ mo ad a2 t) hy_isBar rfl wl_143 cu_isBar dX12_events_9 (Nat.le_of_ble_eq_true rfl) (kP ?_)
  refine gm_iconst C 1 dX12_events_12 (by decide) ?_
  refine gm_callV C (y := yX12_goes) (as := [.int x1, .int (v_isBar a2 t), .int 1]) rfl (by decide) (by decide) (c_goes l D cI cZ mo ad x1 (v_isBar a2 t) 1 t _ h) hy_goes rfl wl_165 cu_goes dX12_events_13 (Nat.le_of_ble_eq_true rfl) (kI (fun r2 t2 h => ?_))
  obtain ⟨g4, h⟩ := h
  have k33 : ∀ x3 : Int32, x3 = (if r2 = 0 then 0 else (mgA t2 6 (v_at a1 a2))) → GM p l e (rmD 2) s m args below meth c 4 D cI cZ mo ad (gm_Q below D cI cZ mo ad (pI Q t) args s) t2 33 [] [.int x3] := by
    intro x3 ex3
    have h := h x3 ex3
    exact gm_iret C E dX12_events_33 ⟨_, rfl, h⟩
  refine gm_if_eq C 32 dX12_events_16 (by decide) (fun c16_1 => ?_) (fun c16_1 => ?_)
  · refine gm_iconst C 0 dX12_events_32 (by decide) ?_
    refine gm_sub [] rfl ?_
    exact k33 _ ((if_pos c16_1).symm)
  · refine gm_aload C 1 dX12_events_19 rfl ?_
    refine gm_getA C 6 (by decide) rfl wf_25 rfl dX12_events_20 ?_
    refine gm_iloadn C 2 1 dX12_events_23 rfl rfl ?_
    refine gm_iloadn C 3 2 dX12_events_24 rfl rfl ?_
    refine gm_callS C (y := yX12_at) (as := [.int a1, .int a2]) rfl (by decide) (by decide) (c_at l D cI cZ mo ad a1 a2 t2) hy_at rfl wl_139 cu_at dX12_events_25 (Nat.le_of_ble_eq_true rfl) (kP ?_)
    refine gm_iald C 6 (by decide) rfl (g4 c16_1) dX12_events_28 ?_
    refine gm_goto C 33 dX12_events_29 (by decide) ?_
    refine gm_sub [] rfl ?_
    exact k33 _ ((if_neg c16_1).symm)
def w_left (a1 a2 : Int32) (t : MS) (Q : Int32 → MS → Prop) : Prop := w_goes (v_isVoice a1) (v_isBar a2 t) 1 t (fun r1 t1 => ∃ J33 : Int32 → MS → Prop, (∀ x2 : Int32, ∀ t3 : MS, J33 x2 t3 → (Q x2 t3)) ∧ (((r1 = 0) → J33 0 t1) ∧ (¬ (r1 = 0) → (d_lengthOf a2 t1) ∧ w_allTicks a1 a2 t1 (fun r5 t5 => J33 ((v_lengthOf a2 t1) - r5) t5))))
set_option maxRecDepth 20000 in
set_option maxHeartbeats 2000000 in
theorem c_left (l : Launch) (D : va_G) (cI cZ : ClassId) (mo : Nat) (ad : Nat → Nat) (a1 a2 : Int32) (t : MS) (Q : Int32 → MS → Prop) (h : w_left a1 a2 t Q) : MetM l yX12_left cX12_left 3 (some .int) 4 [.ref mo, .int a1, .int a2] (pI Q) D cI cZ mo ad t := by
  unfold w_left at h
  refine gm_start (by decide) rfl (Nat.le_of_ble_eq_true rfl) (fun p e s m args below meth c C E => ?_)
  refine gm_aload C 0 dX12_left_0 rfl ?_
  refine gm_iloadn C 1 1 dX12_left_1 rfl rfl ?_
  refine gm_callS C (y := yX12_isVoice) (as := [.int a1]) rfl (by decide) (by decide) (c_isVoice l D cI cZ mo ad a1 t) hy_isVoice rfl wl_184 cu_isVoice dX12_left_2 (Nat.le_of_ble_eq_true rfl) (kP ?_)
  refine gm_aload C 0 dX12_left_5 rfl ?_
  refine gm_iloadn C 2 2 dX12_left_6 rfl rfl ?_
  refine gm_callV C (y := yX12_isBar) (as := [.int a2]) rfl (by decide) (by decide) (c_isBar l D cI cZ mo ad a2 t) hy_isBar rfl wl_143 cu_isBar dX12_left_7 (Nat.le_of_ble_eq_true rfl) (kP ?_)
  refine gm_iconst C 1 dX12_left_10 (by decide) ?_
  refine gm_callV C (y := yX12_goes) (as := [.int (v_isVoice a1), .int (v_isBar a2 t), .int 1]) rfl (by decide) (by decide) (c_goes l D cI cZ mo ad (v_isVoice a1) (v_isBar a2 t) 1 t _ h) hy_goes rfl wl_165 cu_goes dX12_left_11 (Nat.le_of_ble_eq_true rfl) (kI (fun r1 t1 h => ?_))
  obtain ⟨J33, hJ33, h⟩ := h
  have k33 : ∀ x2 : Int32, ∀ t3 : MS, J33 x2 t3 → GM p l e (rmD 4) s m args below meth c 3 D cI cZ mo ad (gm_Q below D cI cZ mo ad (pI Q t) args s) t3 33 [] [.int x2] := by
    intro x2 t3 h
    have h := hJ33 x2 t3 h
    exact gm_iret C E dX12_left_33 ⟨_, rfl, h⟩
  refine gm_if_eq C 32 dX12_left_14 (by decide) (fun c14_1 => ?_) (fun c14_1 => ?_)
  · have h := h.1 c14_1
    refine gm_iconst C 0 dX12_left_32 (by decide) ?_
    refine gm_sub [] rfl ?_
    exact k33 0 t1 h
  · have h := h.2 c14_1
    refine gm_aload C 0 dX12_left_17 rfl ?_
    refine gm_iloadn C 2 2 dX12_left_18 rfl rfl ?_
    obtain ⟨g4, h⟩ := h
    refine gm_callV C (y := yX12_lengthOf) (as := [.int a2]) rfl (by decide) (by decide) (c_lengthOf l D cI cZ mo ad a2 t1 g4) hy_lengthOf rfl wl_172 cu_lengthOf dX12_left_19 (Nat.le_of_ble_eq_true rfl) (kP ?_)
    refine gm_aload C 0 dX12_left_22 rfl ?_
    refine gm_iloadn C 1 1 dX12_left_23 rfl rfl ?_
    refine gm_iloadn C 2 2 dX12_left_24 rfl rfl ?_
    refine gm_callV C (y := yX12_allTicks) (as := [.int a1, .int a2]) rfl (by decide) (by decide) (c_allTicks l D cI cZ mo ad a1 a2 t1 _ h) hy_allTicks rfl wl_169 cu_allTicks dX12_left_25 (Nat.le_of_ble_eq_true rfl) (kI (fun r5 t5 h => ?_))
    refine gm_isub C dX12_left_28 ?_
    refine gm_goto C 33 dX12_left_29 (by decide) ?_
    refine gm_sub [] rfl ?_
    exact k33 ((v_lengthOf a2 t1) - r5) t5 h
def w_isRightIn_L42 (a1 : Int32) (a2 : Int32) (Q : Int32 → MS → Prop) (x2 : Int32) (t4 : MS) (K42 : (Int32 × Int32 × Int32) → Prop) (z42 : Int32 × Int32 × Int32) : Prop := ((x2 ≤ z42.2.2) → ∀ x5 : Int32, x5 = (if (¬ (z42.1 = 0)) ∧ ((mRem z42.2.1 6) = 0) then 1 else 0) → (gb x5) ∧ Q x5 t4) ∧ (¬ (x2 ≤ z42.2.2) → (mIn 10 (v_place a1 a2 z42.2.2)) ∧ ∀ x8 : Int32, x8 = (if (mgA t4 10 (v_place a1 a2 z42.2.2)) = 2 then 1 else 0) → ∀ x9 : Int32, x9 = (if (¬ (z42.1 = 0)) ∧ ((¬ (x8 = 0)) ∨ ((mRem z42.2.1 6) = 0)) then 1 else 0) → ((¬ (x8 = 0)) → d_ticksOf (v_place a1 a2 z42.2.2) t4) ∧ ∀ x10 : Int32, x10 = (if x8 = 0 then 0 else (z42.2.1 + (v_ticksOf (v_place a1 a2 z42.2.2) t4))) → K42 (x9, x10, (z42.2.2 + 1)))
def w_isRightIn (a1 a2 : Int32) (t : MS) (Q : Int32 → MS → Prop) : Prop := (mIn 6 (v_at a1 a2)) ∧ ∀ x2 : Int32, x2 = (mgA t 6 (v_at a1 a2)) → ∃ J34 : Int32 → MS → Prop, (∀ x3 : Int32, ∀ t4 : MS, J34 x3 t4 → (∃ n, lp (w_isRightIn_L42 a1 a2 Q x2 t4) n (x3, 0, 0))) ∧ ∃ J29 : MS → Prop, (∀ t12 : MS, J29 t12 → (J34 1 t12)) ∧ (((x2 = 0) → J29 t) ∧ (¬ (x2 = 0) → w_allTicks a1 a2 t (fun r13 t13 => (d_lengthOf a2 t13) ∧ ((r13 = (v_lengthOf a2 t13)) → J29 t13) ∧ (¬ (r13 = (v_lengthOf a2 t13)) → J34 0 t13))))
set_option maxRecDepth 20000 in
set_option maxHeartbeats 2000000 in
theorem c_isRightIn (l : Launch) (D : va_G) (cI cZ : ClassId) (mo : Nat) (ad : Nat → Nat) (a1 a2 : Int32) (t : MS) (Q : Int32 → MS → Prop) (h : w_isRightIn a1 a2 t Q) : MetM l yX12_isRightIn cX12_isRightIn 8 (some .boolean) 4 [.ref mo, .int a1, .int a2] (pI Q) D cI cZ mo ad t := by
  unfold w_isRightIn at h
  refine gm_start (by decide) rfl (Nat.le_of_ble_eq_true rfl) (fun p e s m args below meth c C E => ?_)
  refine gm_aload C 0 dX12_isRightIn_0 rfl ?_
  refine gm_getA C 6 (by decide) rfl wf_25 rfl dX12_isRightIn_1 ?_
  refine gm_iloadn C 1 1 dX12_isRightIn_4 rfl rfl ?_
  refine gm_iloadn C 2 2 dX12_isRightIn_5 rfl rfl ?_
  refine gm_callS C (y := yX12_at) (as := [.int a1, .int a2]) rfl (by decide) (by decide) (c_at l D cI cZ mo ad a1 a2 t) hy_at rfl wl_139 cu_at dX12_isRightIn_6 (Nat.le_of_ble_eq_true rfl) (kP ?_)
  obtain ⟨g1, h⟩ := h
  refine gm_iald C 6 (by decide) rfl g1 dX12_isRightIn_9 ?_
  refine gm_nameI (fun x2 ex2 => ?_)
  have h := h x2 ex2
  refine gm_istoren C 3 [(3, .int x2), (0, .ref mo), (1, .int a1), (2, .int a2)] dX12_isRightIn_10 rfl (by decide) rfl ?_
  refine gm_iloadn C 0 3 dX12_isRightIn_11 rfl rfl ?_
  obtain ⟨J34, hJ34, h⟩ := h
  have k34 : ∀ x3 : Int32, ∀ t4 : MS, J34 x3 t4 → GM p l e (rmD 4) s m args below meth c 8 D cI cZ mo ad (gm_Q below D cI cZ mo ad (pI Q t) args s) t4 34 [(0, .ref mo), (1, .int a1), (2, .int a2), (3, .int x2)] [.int x3] := by
    intro x3 t4 h
    have h := hJ34 x3 t4 h
    refine gm_istore C [(4, .int x3), (0, .ref mo), (1, .int a1), (2, .int a2), (3, .int x2)] dX12_isRightIn_34 (by decide) rfl ?_
    refine gm_iconst C 0 dX12_isRightIn_36 (by decide) ?_
    refine gm_istore C [(5, .int 0), (4, .int x3), (0, .ref mo), (1, .int a1), (2, .int a2), (3, .int x2)] dX12_isRightIn_37 (by decide) rfl ?_
    refine gm_iconst C 0 dX12_isRightIn_39 (by decide) ?_
    refine gm_istore C [(6, .int 0), (5, .int 0), (4, .int x3), (0, .ref mo), (1, .int a1), (2, .int a2), (3, .int x2)] dX12_isRightIn_40 (by decide) rfl ?_
    refine gm_sub [3, 4, 5, 6, 2, 1, 0] rfl ?_
    obtain ⟨n42, h⟩ := h
    have k42 : ∀ (n42 : Nat) (z42 : Int32 × Int32 × Int32), lp (w_isRightIn_L42 a1 a2 Q x2 t4) n42 z42 → GM p l e (rmD 4) s m args below meth c 8 D cI cZ mo ad (gm_Q below D cI cZ mo ad (pI Q t) args s) t4 42 [(0, .ref mo), (1, .int a1), (2, .int a2), (3, .int x2), (4, .int z42.1), (5, .int z42.2.1), (6, .int z42.2.2)] [] := by
      intro n42
      induction n42 with
      | zero => intro z42 h; exact h.elim
      | succ n42 ih42 =>
        intro z42 h
        have h : w_isRightIn_L42 a1 a2 Q x2 t4 (lp (w_isRightIn_L42 a1 a2 Q x2 t4) n42) z42 := h
        unfold w_isRightIn_L42 at h
        refine gm_iload C 6 dX12_isRightIn_42 rfl ?_
        refine gm_iloadn C 3 3 dX12_isRightIn_44 rfl rfl ?_
        refine gm_icmp_ge C 127 dX12_isRightIn_45 (by decide) (fun c45_1 => ?_) (fun c45_1 => ?_)
        · have h := h.1 c45_1
          refine gm_iload C 4 dX12_isRightIn_127 rfl ?_
          have k145 : ∀ x5 : Int32, x5 = (if (¬ (z42.1 = 0)) ∧ ((mRem z42.2.1 6) = 0) then 1 else 0) → GM p l e (rmD 4) s m args below meth c 8 D cI cZ mo ad (gm_Q below D cI cZ mo ad (pI Q t) args s) t4 145 [] [.int x5] := by
            intro x5 ex5
            have h := h x5 ex5
            obtain ⟨g6, h⟩ := h
            exact gm_zret C E g6 dX12_isRightIn_145 ⟨_, rfl, h⟩
          refine gm_if_eq C 144 dX12_isRightIn_129 (by decide) (fun c129_2 => ?_) (fun c129_2 => ?_)
          · refine gm_iconst C 0 dX12_isRightIn_144 (by decide) ?_
            refine gm_sub [] rfl ?_
            exact k145 _ ((if_neg (fun q0 => q0.1 c129_2)).symm)
          · refine gm_iload C 5 dX12_isRightIn_132 rfl ?_
            refine gm_bipush C 6 dX12_isRightIn_134 (by decide) ?_
            refine gm_irem C dX12_isRightIn_136 (by decide) ?_
            refine gm_if_ne C 144 dX12_isRightIn_137 (by decide) (fun c137_3 => ?_) (fun c137_3 => ?_)
            · refine gm_iconst C 0 dX12_isRightIn_144 (by decide) ?_
              refine gm_sub [] rfl ?_
              exact k145 _ ((if_neg (fun q0 => c137_3 q0.2)).symm)
            · refine gm_iconst C 1 dX12_isRightIn_140 (by decide) ?_
              refine gm_goto C 145 dX12_isRightIn_141 (by decide) ?_
              refine gm_sub [] rfl ?_
              exact k145 _ ((if_pos ⟨c129_2, c137_3⟩).symm)
        · have h := h.2 c45_1
          refine gm_aload C 0 dX12_isRightIn_48 rfl ?_
          refine gm_getA C 10 (by decide) rfl wf_38 rfl dX12_isRightIn_49 ?_
          refine gm_iloadn C 1 1 dX12_isRightIn_52 rfl rfl ?_
          refine gm_iloadn C 2 2 dX12_isRightIn_53 rfl rfl ?_
          refine gm_iload C 6 dX12_isRightIn_54 rfl ?_
          refine gm_callS C (y := yX12_place) (as := [.int a1, .int a2, .int z42.2.2]) rfl (by decide) (by decide) (c_place l D cI cZ mo ad a1 a2 z42.2.2 t4) hy_place rfl wl_151 cu_place dX12_isRightIn_56 (Nat.le_of_ble_eq_true rfl) (kP ?_)
          obtain ⟨g7, h⟩ := h
          refine gm_iald C 10 (by decide) rfl g7 dX12_isRightIn_59 ?_
          refine gm_iconst C 2 dX12_isRightIn_60 (by decide) ?_
          have k69 : ∀ x8 : Int32, x8 = (if (mgA t4 10 (v_place a1 a2 z42.2.2)) = 2 then 1 else 0) → GM p l e (rmD 4) s m args below meth c 8 D cI cZ mo ad (gm_Q below D cI cZ mo ad (pI Q t) args s) t4 69 [(0, .ref mo), (1, .int a1), (2, .int a2), (3, .int x2), (4, .int z42.1), (5, .int z42.2.1), (6, .int z42.2.2)] [.int x8] := by
            intro x8 ex8
            have h := h x8 ex8
            refine gm_istore C [(7, .int x8), (0, .ref mo), (1, .int a1), (2, .int a2), (3, .int x2), (4, .int z42.1), (5, .int z42.2.1), (6, .int z42.2.2)] dX12_isRightIn_69 (by decide) rfl ?_
            refine gm_iload C 5 dX12_isRightIn_71 rfl ?_
            have k94 : ∀ x9 : Int32, x9 = (if (¬ (z42.1 = 0)) ∧ ((¬ (x8 = 0)) ∨ ((mRem z42.2.1 6) = 0)) then 1 else 0) → GM p l e (rmD 4) s m args below meth c 8 D cI cZ mo ad (gm_Q below D cI cZ mo ad (pI Q t) args s) t4 94 [(0, .ref mo), (1, .int a1), (2, .int a2), (3, .int x2), (5, .int z42.2.1), (6, .int z42.2.2), (7, .int x8)] [.int x9] := by
              intro x9 ex9
              have h := h x9 ex9
              refine gm_istore C [(4, .int x9), (0, .ref mo), (1, .int a1), (2, .int a2), (3, .int x2), (5, .int z42.2.1), (6, .int z42.2.2), (7, .int x8)] dX12_isRightIn_94 (by decide) rfl ?_
              refine gm_iload C 7 dX12_isRightIn_96 rfl ?_
              obtain ⟨g11, h⟩ := h
              have k119 : ∀ x10 : Int32, x10 = (if x8 = 0 then 0 else (z42.2.1 + (v_ticksOf (v_place a1 a2 z42.2.2) t4))) → GM p l e (rmD 4) s m args below meth c 8 D cI cZ mo ad (gm_Q below D cI cZ mo ad (pI Q t) args s) t4 119 [(0, .ref mo), (1, .int a1), (2, .int a2), (3, .int x2), (4, .int x9), (6, .int z42.2.2)] [.int x10] := by
                intro x10 ex10
                have h := h x10 ex10
                refine gm_istore C [(5, .int x10), (0, .ref mo), (1, .int a1), (2, .int a2), (3, .int x2), (4, .int x9), (6, .int z42.2.2)] dX12_isRightIn_119 (by decide) rfl ?_
                refine gm_iinc C 6 (z42.2.2 + 1) [(6, .int (z42.2.2 + 1)), (5, .int x10), (0, .ref mo), (1, .int a1), (2, .int a2), (3, .int x2), (4, .int x9)] dX12_isRightIn_121 rfl rfl (by decide) rfl ?_
                refine gm_goto C 42 dX12_isRightIn_124 (by decide) ?_
                refine gm_sub [2, 3, 4, 5, 6, 1, 0] rfl ?_
                have h9 := ih42 (x9, x10, (z42.2.2 + 1)) h
                exact h9
              refine gm_if_eq C 118 dX12_isRightIn_98 (by decide) (fun c98_8 => ?_) (fun c98_8 => ?_)
              · refine gm_iconst C 0 dX12_isRightIn_118 (by decide) ?_
                refine gm_sub [1, 2, 3, 4, 0, 6] rfl ?_
                exact k119 _ ((if_pos c98_8).symm)
              · refine gm_iload C 5 dX12_isRightIn_101 rfl ?_
                refine gm_aload C 1 dX12_isRightIn_103 rfl ?_
                refine gm_iloadn C 2 1 dX12_isRightIn_104 rfl rfl ?_
                refine gm_iloadn C 3 2 dX12_isRightIn_105 rfl rfl ?_
                refine gm_iload C 6 dX12_isRightIn_106 rfl ?_
                refine gm_callS C (y := yX12_place) (as := [.int a1, .int a2, .int z42.2.2]) rfl (by decide) (by decide) (c_place l D cI cZ mo ad a1 a2 z42.2.2 t4) hy_place rfl wl_151 cu_place dX12_isRightIn_108 (Nat.le_of_ble_eq_true rfl) (kP ?_)
                refine gm_callV C (y := yX12_ticksOf) (as := [.int (v_place a1 a2 z42.2.2)]) rfl (by decide) (by decide) (c_ticksOf l D cI cZ mo ad (v_place a1 a2 z42.2.2) t4 (g11 c98_8)) hy_ticksOf rfl wl_155 cu_ticksOf dX12_isRightIn_111 (Nat.le_of_ble_eq_true rfl) (kP ?_)
                refine gm_iadd C dX12_isRightIn_114 ?_
                refine gm_goto C 119 dX12_isRightIn_115 (by decide) ?_
                refine gm_sub [1, 2, 3, 4, 0, 6] rfl ?_
                exact k119 _ ((if_neg c98_8).symm)
            refine gm_if_eq C 93 dX12_isRightIn_73 (by decide) (fun c73_5 => ?_) (fun c73_5 => ?_)
            · refine gm_iconst C 0 dX12_isRightIn_93 (by decide) ?_
              refine gm_sub [1, 2, 3, 4, 6, 7, 0] rfl ?_
              exact k94 _ ((if_neg (fun q0 => q0.1 c73_5)).symm)
            · refine gm_iload C 0 dX12_isRightIn_76 rfl ?_
              refine gm_if_ne C 89 dX12_isRightIn_78 (by decide) (fun c78_6 => ?_) (fun c78_6 => ?_)
              · refine gm_iconst C 1 dX12_isRightIn_89 (by decide) ?_
                refine gm_goto C 94 dX12_isRightIn_90 (by decide) ?_
                refine gm_sub [1, 2, 3, 4, 6, 7, 0] rfl ?_
                exact k94 _ ((if_pos ⟨c73_5, (Or.inl c78_6)⟩).symm)
              · refine gm_iload C 6 dX12_isRightIn_81 rfl ?_
                refine gm_bipush C 6 dX12_isRightIn_83 (by decide) ?_
                refine gm_irem C dX12_isRightIn_85 (by decide) ?_
                refine gm_if_ne C 93 dX12_isRightIn_86 (by decide) (fun c86_7 => ?_) (fun c86_7 => ?_)
                · refine gm_iconst C 0 dX12_isRightIn_93 (by decide) ?_
                  refine gm_sub [1, 2, 3, 4, 6, 7, 0] rfl ?_
                  exact k94 _ ((if_neg (fun q0 => (fun q1 => Or.elim q1 (fun r => r c78_6) c86_7) q0.2)).symm)
                · refine gm_iconst C 1 dX12_isRightIn_89 (by decide) ?_
                  refine gm_goto C 94 dX12_isRightIn_90 (by decide) ?_
                  refine gm_sub [1, 2, 3, 4, 6, 7, 0] rfl ?_
                  exact k94 _ ((if_pos ⟨c73_5, (Or.inr c86_7)⟩).symm)
          refine gm_icmp_ne C 68 dX12_isRightIn_61 (by decide) (fun c61_4 => ?_) (fun c61_4 => ?_)
          · refine gm_iconst C 0 dX12_isRightIn_68 (by decide) ?_
            exact k69 _ ((if_neg c61_4).symm)
          · refine gm_iconst C 1 dX12_isRightIn_64 (by decide) ?_
            refine gm_goto C 69 dX12_isRightIn_65 (by decide) ?_
            exact k69 _ ((if_pos c61_4).symm)
    exact k42 n42 (x3, 0, 0) h
  obtain ⟨J29, hJ29, h⟩ := h
  have k29 : ∀ t12 : MS, J29 t12 → GM p l e (rmD 4) s m args below meth c 8 D cI cZ mo ad (gm_Q below D cI cZ mo ad (pI Q t) args s) t12 29 [(0, .ref mo), (1, .int a1), (2, .int a2), (3, .int x2)] [] := by
    intro t12 h
    have h := hJ29 t12 h
    refine gm_iconst C 1 dX12_isRightIn_29 (by decide) ?_
    refine gm_goto C 34 dX12_isRightIn_30 (by decide) ?_
    exact k34 1 t12 h
  refine gm_if_eq C 29 dX12_isRightIn_12 (by decide) (fun c12_9 => ?_) (fun c12_9 => ?_)
  · have h := h.1 c12_9
    refine gm_sub [1, 2, 3, 0] rfl ?_
    exact k29 t h
  · have h := h.2 c12_9
    refine gm_aload C 1 dX12_isRightIn_15 rfl ?_
    refine gm_iloadn C 2 1 dX12_isRightIn_16 rfl rfl ?_
    refine gm_iloadn C 3 2 dX12_isRightIn_17 rfl rfl ?_
    refine gm_callV C (y := yX12_allTicks) (as := [.int a1, .int a2]) rfl (by decide) (by decide) (c_allTicks l D cI cZ mo ad a1 a2 t _ h) hy_allTicks rfl wl_169 cu_allTicks dX12_isRightIn_18 (Nat.le_of_ble_eq_true rfl) (kI (fun r13 t13 h => ?_))
    refine gm_aload C 1 dX12_isRightIn_21 rfl ?_
    refine gm_iloadn C 3 2 dX12_isRightIn_22 rfl rfl ?_
    obtain ⟨g14, h⟩ := h
    refine gm_callV C (y := yX12_lengthOf) (as := [.int a2]) rfl (by decide) (by decide) (c_lengthOf l D cI cZ mo ad a2 t13 g14) hy_lengthOf rfl wl_172 cu_lengthOf dX12_isRightIn_23 (Nat.le_of_ble_eq_true rfl) (kP ?_)
    refine gm_icmp_ne C 33 dX12_isRightIn_26 (by decide) (fun c26_10 => ?_) (fun c26_10 => ?_)
    · have h := h.2 c26_10
      refine gm_iconst C 0 dX12_isRightIn_33 (by decide) ?_
      refine gm_sub [1, 2, 3, 0] rfl ?_
      exact k34 0 t13 h
    · have h := h.1 c26_10
      refine gm_sub [1, 2, 3, 0] rfl ?_
      exact k29 t13 h
def w_isRight (a1 a2 : Int32) (t : MS) (Q : Int32 → MS → Prop) : Prop := w_goes (v_isVoice a1) (v_isBar a2 t) 1 t (fun r1 t1 => ∃ J31 : Int32 → MS → Prop, (∀ x2 : Int32, ∀ t3 : MS, J31 x2 t3 → ((gb x2) ∧ Q x2 t3)) ∧ ∃ J30 : MS → Prop, (∀ t5 : MS, J30 t5 → (J31 0 t5)) ∧ (((r1 = 0) → J30 t1) ∧ (¬ (r1 = 0) → w_isRightIn a1 a2 t1 (fun r6 t6 => ((r6 = 0) → J30 t6) ∧ (¬ (r6 = 0) → J31 1 t6)))))
set_option maxRecDepth 20000 in
set_option maxHeartbeats 2000000 in
theorem c_isRight (l : Launch) (D : va_G) (cI cZ : ClassId) (mo : Nat) (ad : Nat → Nat) (a1 a2 : Int32) (t : MS) (Q : Int32 → MS → Prop) (h : w_isRight a1 a2 t Q) : MetM l yX12_isRight cX12_isRight 3 (some .boolean) 5 [.ref mo, .int a1, .int a2] (pI Q) D cI cZ mo ad t := by
  unfold w_isRight at h
  refine gm_start (by decide) rfl (Nat.le_of_ble_eq_true rfl) (fun p e s m args below meth c C E => ?_)
  refine gm_aload C 0 dX12_isRight_0 rfl ?_
  refine gm_iloadn C 1 1 dX12_isRight_1 rfl rfl ?_
  refine gm_callS C (y := yX12_isVoice) (as := [.int a1]) rfl (by decide) (by decide) (c_isVoice l D cI cZ mo ad a1 t) hy_isVoice rfl wl_184 cu_isVoice dX12_isRight_2 (Nat.le_of_ble_eq_true rfl) (kP ?_)
  refine gm_aload C 0 dX12_isRight_5 rfl ?_
  refine gm_iloadn C 2 2 dX12_isRight_6 rfl rfl ?_
  refine gm_callV C (y := yX12_isBar) (as := [.int a2]) rfl (by decide) (by decide) (c_isBar l D cI cZ mo ad a2 t) hy_isBar rfl wl_143 cu_isBar dX12_isRight_7 (Nat.le_of_ble_eq_true rfl) (kP ?_)
  refine gm_iconst C 1 dX12_isRight_10 (by decide) ?_
  refine gm_callV C (y := yX12_goes) (as := [.int (v_isVoice a1), .int (v_isBar a2 t), .int 1]) rfl (by decide) (by decide) (c_goes l D cI cZ mo ad (v_isVoice a1) (v_isBar a2 t) 1 t _ h) hy_goes rfl wl_165 cu_goes dX12_isRight_11 (Nat.le_of_ble_eq_true rfl) (kI (fun r1 t1 h => ?_))
  obtain ⟨J31, hJ31, h⟩ := h
  have k31 : ∀ x2 : Int32, ∀ t3 : MS, J31 x2 t3 → GM p l e (rmD 5) s m args below meth c 3 D cI cZ mo ad (gm_Q below D cI cZ mo ad (pI Q t) args s) t3 31 [] [.int x2] := by
    intro x2 t3 h
    have h := hJ31 x2 t3 h
    obtain ⟨g4, h⟩ := h
    exact gm_zret C E g4 dX12_isRight_31 ⟨_, rfl, h⟩
  obtain ⟨J30, hJ30, h⟩ := h
  have k30 : ∀ t5 : MS, J30 t5 → GM p l e (rmD 5) s m args below meth c 3 D cI cZ mo ad (gm_Q below D cI cZ mo ad (pI Q t) args s) t5 30 [] [] := by
    intro t5 h
    have h := hJ30 t5 h
    refine gm_iconst C 0 dX12_isRight_30 (by decide) ?_
    exact k31 0 t5 h
  refine gm_if_eq C 30 dX12_isRight_14 (by decide) (fun c14_1 => ?_) (fun c14_1 => ?_)
  · have h := h.1 c14_1
    refine gm_sub [] rfl ?_
    exact k30 t1 h
  · have h := h.2 c14_1
    refine gm_aload C 0 dX12_isRight_17 rfl ?_
    refine gm_iloadn C 1 1 dX12_isRight_18 rfl rfl ?_
    refine gm_iloadn C 2 2 dX12_isRight_19 rfl rfl ?_
    refine gm_callV C (y := yX12_isRightIn) (as := [.int a1, .int a2]) rfl (by decide) (by decide) (c_isRightIn l D cI cZ mo ad a1 a2 t1 _ h) hy_isRightIn rfl wl_201 cu_isRightIn dX12_isRight_20 (Nat.le_of_ble_eq_true rfl) (kI (fun r6 t6 h => ?_))
    refine gm_if_eq C 30 dX12_isRight_23 (by decide) (fun c23_2 => ?_) (fun c23_2 => ?_)
    · have h := h.1 c23_2
      refine gm_sub [] rfl ?_
      exact k30 t6 h
    · have h := h.2 c23_2
      refine gm_iconst C 1 dX12_isRight_26 (by decide) ?_
      refine gm_goto C 31 dX12_isRight_27 (by decide) ?_
      refine gm_sub [] rfl ?_
      exact k31 1 t6 h
def w_written (a1 a2 a3 : Int32) (t : MS) (Q : Int32 → MS → Prop) : Prop := ∀ x1 : Int32, x1 = (v_isVoice a1) → ((¬ (x1 = 0)) → d_isEvent a1 a2 a3 t) ∧ ∀ x2 : Int32, x2 = (if (¬ (x1 = 0)) ∧ (¬ ((v_isEvent a1 a2 a3 t) = 0)) then 1 else 0) → w_goes x1 x2 1 t (fun r4 t4 => ((r4 = 0) → Q 0 t4) ∧ (¬ (r4 = 0) → (mIn 8 (v_place a1 a2 a3)) ∧ ∀ x6 : Int32, x6 = (mgA t4 8 (v_place a1 a2 a3)) → ((¬ (x6 = 0)) → mIn 13 a1) ∧ ∀ x7 : Int32, x7 = (if x6 = 0 then (-1) else (x6 + (mgA t4 13 a1))) → Q x7 t4))
set_option maxRecDepth 20000 in
set_option maxHeartbeats 2000000 in
theorem c_written (l : Launch) (D : va_G) (cI cZ : ClassId) (mo : Nat) (ad : Nat → Nat) (a1 a2 a3 : Int32) (t : MS) (Q : Int32 → MS → Prop) (h : w_written a1 a2 a3 t Q) : MetM l yX12_written cX12_written 6 (some .int) 3 [.ref mo, .int a1, .int a2, .int a3] (pI Q) D cI cZ mo ad t := by
  unfold w_written at h
  refine gm_start (by decide) rfl (Nat.le_of_ble_eq_true rfl) (fun p e s m args below meth c C E => ?_)
  refine gm_iloadn C 1 1 dX12_written_0 rfl rfl ?_
  refine gm_callS C (y := yX12_isVoice) (as := [.int a1]) rfl (by decide) (by decide) (c_isVoice l D cI cZ mo ad a1 t) hy_isVoice rfl wl_184 cu_isVoice dX12_written_1 (Nat.le_of_ble_eq_true rfl) (kP ?_)
  refine gm_nameI (fun x1 ex1 => ?_)
  have h := h x1 ex1
  refine gm_istore C [(4, .int x1), (0, .ref mo), (1, .int a1), (2, .int a2), (3, .int a3)] dX12_written_4 (by decide) rfl ?_
  refine gm_aload C 1 dX12_written_6 rfl ?_
  refine gm_iload C 0 dX12_written_7 rfl ?_
  refine gm_iload C 0 dX12_written_9 rfl ?_
  obtain ⟨g3, h⟩ := h
  have k29 : ∀ x2 : Int32, x2 = (if (¬ (x1 = 0)) ∧ (¬ ((v_isEvent a1 a2 a3 t) = 0)) then 1 else 0) → GM p l e (rmD 3) s m args below meth c 6 D cI cZ mo ad (gm_Q below D cI cZ mo ad (pI Q t) args s) t 29 [(0, .ref mo), (1, .int a1), (2, .int a2), (3, .int a3)] [.int x2, .int x1, .ref mo] := by
    intro x2 ex2
    have h := h x2 ex2
    refine gm_iconst C 1 dX12_written_29 (by decide) ?_
    refine gm_callV C (y := yX12_goes) (as := [.int x1, .int x2, .int 1]) rfl (by decide) (by decide) (c_goes l D cI cZ mo ad x1 x2 1 t _ h) hy_goes rfl wl_165 cu_goes dX12_written_30 (Nat.le_of_ble_eq_true rfl) (kI (fun r4 t4 h => ?_))
    refine gm_if_ne C 38 dX12_written_33 (by decide) (fun c33_3 => ?_) (fun c33_3 => ?_)
    · have h := h.2 c33_3
      refine gm_aload C 0 dX12_written_38 rfl ?_
      refine gm_getA C 8 (by decide) rfl wf_32 rfl dX12_written_39 ?_
      refine gm_iloadn C 1 1 dX12_written_42 rfl rfl ?_
      refine gm_iloadn C 2 2 dX12_written_43 rfl rfl ?_
      refine gm_iloadn C 3 3 dX12_written_44 rfl rfl ?_
      refine gm_callS C (y := yX12_place) (as := [.int a1, .int a2, .int a3]) rfl (by decide) (by decide) (c_place l D cI cZ mo ad a1 a2 a3 t4) hy_place rfl wl_151 cu_place dX12_written_45 (Nat.le_of_ble_eq_true rfl) (kP ?_)
      obtain ⟨g5, h⟩ := h
      refine gm_iald C 8 (by decide) rfl g5 dX12_written_48 ?_
      refine gm_nameI (fun x6 ex6 => ?_)
      have h := h x6 ex6
      refine gm_istore C [(5, .int x6), (0, .ref mo), (1, .int a1), (2, .int a2), (3, .int a3)] dX12_written_49 (by decide) rfl ?_
      refine gm_iload C 0 dX12_written_51 rfl ?_
      obtain ⟨g8, h⟩ := h
      have k69 : ∀ x7 : Int32, x7 = (if x6 = 0 then (-1) else (x6 + (mgA t4 13 a1))) → GM p l e (rmD 3) s m args below meth c 6 D cI cZ mo ad (gm_Q below D cI cZ mo ad (pI Q t) args s) t4 69 [] [.int x7] := by
        intro x7 ex7
        have h := h x7 ex7
        exact gm_iret C E dX12_written_69 ⟨_, rfl, h⟩
      refine gm_if_ne C 60 dX12_written_53 (by decide) (fun c53_4 => ?_) (fun c53_4 => ?_)
      · refine gm_iload C 0 dX12_written_60 rfl ?_
        refine gm_aload C 1 dX12_written_62 rfl ?_
        refine gm_getA C 13 (by decide) rfl wf_47 rfl dX12_written_63 ?_
        refine gm_iloadn C 2 1 dX12_written_66 rfl rfl ?_
        refine gm_iald C 13 (by decide) rfl (g8 c53_4) dX12_written_67 ?_
        refine gm_iadd C dX12_written_68 ?_
        refine gm_sub [] rfl ?_
        exact k69 _ ((if_neg c53_4).symm)
      · refine gm_iconst C (-1) dX12_written_56 (by decide) ?_
        refine gm_goto C 69 dX12_written_57 (by decide) ?_
        refine gm_sub [] rfl ?_
        exact k69 _ ((if_pos c53_4).symm)
    · have h := h.1 c33_3
      refine gm_iconst C 0 dX12_written_36 (by decide) ?_
      exact gm_iret C E dX12_written_37 ⟨_, rfl, h⟩
  refine gm_if_eq C 28 dX12_written_11 (by decide) (fun c11_1 => ?_) (fun c11_1 => ?_)
  · refine gm_iconst C 0 dX12_written_28 (by decide) ?_
    refine gm_sub [1, 2, 3, 4] rfl ?_
    exact k29 _ ((if_neg (fun q0 => q0.1 c11_1)).symm)
  · refine gm_aload C 1 dX12_written_14 rfl ?_
    refine gm_iloadn C 2 1 dX12_written_15 rfl rfl ?_
    refine gm_iloadn C 3 2 dX12_written_16 rfl rfl ?_
    refine gm_iloadn C 4 3 dX12_written_17 rfl rfl ?_
    refine gm_callV C (y := yX12_isEvent) (as := [.int a1, .int a2, .int a3]) rfl (by decide) (by decide) (c_isEvent l D cI cZ mo ad a1 a2 a3 t (g3 c11_1)) hy_isEvent rfl wl_198 cu_isEvent dX12_written_18 (Nat.le_of_ble_eq_true rfl) (kP ?_)
    refine gm_if_eq C 28 dX12_written_21 (by decide) (fun c21_2 => ?_) (fun c21_2 => ?_)
    · refine gm_iconst C 0 dX12_written_28 (by decide) ?_
      refine gm_sub [1, 2, 3, 4] rfl ?_
      exact k29 _ ((if_neg (fun q0 => (fun q1 => q1 c21_2) q0.2)).symm)
    · refine gm_iconst C 1 dX12_written_24 (by decide) ?_
      refine gm_goto C 29 dX12_written_25 (by decide) ?_
      refine gm_sub [1, 2, 3, 4] rfl ?_
      exact k29 _ ((if_pos ⟨c11_1, c21_2⟩).symm)
def w_addPhrase (a1 a2 a3 a4 a5 : Int32) (t : MS) (Q : Int32 → MS → Prop) : Prop := ∀ x1 : Int32, x1 = (v_isVoice a1) → ((¬ (x1 = 0)) → d_isEvent a1 a2 a3 t) ∧ ((¬ (x1 = 0)) → (¬ ((v_isEvent a1 a2 a3 t) = 0)) → d_isEvent a1 a4 a5 t) ∧ ∀ x2 : Int32, x2 = (if (¬ (x1 = 0)) ∧ ((¬ ((v_isEvent a1 a2 a3 t) = 0)) ∧ (¬ ((v_isEvent a1 a4 a5 t) = 0))) then 1 else 0) → ∀ x5 : Int32, x5 = (if (a2 < a4) ∨ ((a4 = a2) ∧ (¬ (a5 ≤ a3))) then 1 else 0) → ∀ x6 : Int32, x6 = (if (¬ (x5 = 0)) ∧ (¬ (20 ≤ (mgI t 14))) then 1 else 0) → w_goes x1 x2 x6 t (fun r7 t7 => ((r7 = 0) → Q 0 t7) ∧ (¬ (r7 = 0) → (mIn 15 (mgI t7 14)) ∧ ∀ t9 : MS, t9 = msA t7 15 (mgI t7 14) a1 → (mIn 16 (mgI t9 14)) ∧ ∀ t11 : MS, t11 = msA t9 16 (mgI t9 14) a2 → (mIn 17 (mgI t11 14)) ∧ ∀ t13 : MS, t13 = msA t11 17 (mgI t11 14) a3 → (mIn 18 (mgI t13 14)) ∧ ∀ t15 : MS, t15 = msA t13 18 (mgI t13 14) a4 → (mIn 19 (mgI t15 14)) ∧ ∀ t17 : MS, t17 = msA t15 19 (mgI t15 14) a5 → ∀ t18 : MS, t18 = msI t17 14 ((mgI t17 14) + 1) → Q ((mgI t18 14) - 1) t18))
set_option maxRecDepth 20000 in
set_option maxHeartbeats 2000000 in
theorem c_addPhrase (l : Launch) (D : va_G) (cI cZ : ClassId) (mo : Nat) (ad : Nat → Nat) (a1 a2 a3 a4 a5 : Int32) (t : MS) (Q : Int32 → MS → Prop) (h : w_addPhrase a1 a2 a3 a4 a5 t Q) : MetM l yX12_addPhrase cX12_addPhrase 9 (some .int) 3 [.ref mo, .int a1, .int a2, .int a3, .int a4, .int a5] (pI Q) D cI cZ mo ad t := by
  unfold w_addPhrase at h
  refine gm_start (by decide) rfl (Nat.le_of_ble_eq_true rfl) (fun p e s m args below meth c C E => ?_)
  refine gm_iloadn C 1 1 dX12_addPhrase_0 rfl rfl ?_
  refine gm_callS C (y := yX12_isVoice) (as := [.int a1]) rfl (by decide) (by decide) (c_isVoice l D cI cZ mo ad a1 t) hy_isVoice rfl wl_184 cu_isVoice dX12_addPhrase_1 (Nat.le_of_ble_eq_true rfl) (kP ?_)
  refine gm_nameI (fun x1 ex1 => ?_)
  have h := h x1 ex1
  refine gm_istore C [(6, .int x1), (0, .ref mo), (1, .int a1), (2, .int a2), (3, .int a3), (4, .int a4), (5, .int a5)] dX12_addPhrase_4 (by decide) rfl ?_
  refine gm_iload C 0 dX12_addPhrase_6 rfl ?_
  obtain ⟨g3, h⟩ := h
  obtain ⟨g4, h⟩ := h
  have k38 : ∀ x2 : Int32, x2 = (if (¬ (x1 = 0)) ∧ ((¬ ((v_isEvent a1 a2 a3 t) = 0)) ∧ (¬ ((v_isEvent a1 a4 a5 t) = 0))) then 1 else 0) → GM p l e (rmD 3) s m args below meth c 9 D cI cZ mo ad (gm_Q below D cI cZ mo ad (pI Q t) args s) t 38 [(0, .ref mo), (1, .int a1), (2, .int a2), (3, .int a3), (4, .int a4), (5, .int a5), (6, .int x1)] [.int x2] := by
    intro x2 ex2
    have h := h x2 ex2
    refine gm_istore C [(7, .int x2), (0, .ref mo), (1, .int a1), (2, .int a2), (3, .int a3), (4, .int a4), (5, .int a5), (6, .int x1)] dX12_addPhrase_38 (by decide) rfl ?_
    refine gm_iload C 5 dX12_addPhrase_40 rfl ?_
    refine gm_iloadn C 3 2 dX12_addPhrase_42 rfl rfl ?_
    have k63 : ∀ x5 : Int32, x5 = (if (a2 < a4) ∨ ((a4 = a2) ∧ (¬ (a5 ≤ a3))) then 1 else 0) → GM p l e (rmD 3) s m args below meth c 9 D cI cZ mo ad (gm_Q below D cI cZ mo ad (pI Q t) args s) t 63 [(0, .ref mo), (1, .int a1), (2, .int a2), (3, .int a3), (4, .int a4), (5, .int a5), (6, .int x1), (7, .int x2)] [.int x5] := by
      intro x5 ex5
      have h := h x5 ex5
      refine gm_istore C [(8, .int x5), (0, .ref mo), (1, .int a1), (2, .int a2), (3, .int a3), (4, .int a4), (5, .int a5), (6, .int x1), (7, .int x2)] dX12_addPhrase_63 (by decide) rfl ?_
      refine gm_aload C 1 dX12_addPhrase_65 rfl ?_
      refine gm_iload C 7 dX12_addPhrase_66 rfl ?_
      refine gm_iload C 8 dX12_addPhrase_68 rfl ?_
      refine gm_iload C 0 dX12_addPhrase_70 rfl ?_
      have k89 : ∀ x6 : Int32, x6 = (if (¬ (x5 = 0)) ∧ (¬ (20 ≤ (mgI t 14))) then 1 else 0) → GM p l e (rmD 3) s m args below meth c 9 D cI cZ mo ad (gm_Q below D cI cZ mo ad (pI Q t) args s) t 89 [(0, .ref mo), (1, .int a1), (2, .int a2), (3, .int a3), (4, .int a4), (5, .int a5)] [.int x6, .int x2, .int x1, .ref mo] := by
        intro x6 ex6
        have h := h x6 ex6
        refine gm_callV C (y := yX12_goes) (as := [.int x1, .int x2, .int x6]) rfl (by decide) (by decide) (c_goes l D cI cZ mo ad x1 x2 x6 t _ h) hy_goes rfl wl_165 cu_goes dX12_addPhrase_89 (Nat.le_of_ble_eq_true rfl) (kI (fun r7 t7 h => ?_))
        refine gm_if_ne C 97 dX12_addPhrase_92 (by decide) (fun c92_9 => ?_) (fun c92_9 => ?_)
        · have h := h.2 c92_9
          refine gm_aload C 0 dX12_addPhrase_97 rfl ?_
          refine gm_getA C 15 (by decide) rfl wf_50 rfl dX12_addPhrase_98 ?_
          refine gm_aload C 0 dX12_addPhrase_101 rfl ?_
          refine gm_getI C 14 (by decide) rfl wf_181 rfl dX12_addPhrase_102 ?_
          refine gm_iloadn C 1 1 dX12_addPhrase_105 rfl rfl ?_
          obtain ⟨g8, h⟩ := h
          refine gm_iast C 15 (by decide) rfl g8 dX12_addPhrase_106 ?_
          refine gm_nameT (fun t9 et9 => ?_)
          have h := h t9 et9
          refine gm_aload C 0 dX12_addPhrase_107 rfl ?_
          refine gm_getA C 16 (by decide) rfl wf_53 rfl dX12_addPhrase_108 ?_
          refine gm_aload C 0 dX12_addPhrase_111 rfl ?_
          refine gm_getI C 14 (by decide) rfl wf_181 rfl dX12_addPhrase_112 ?_
          refine gm_iloadn C 2 2 dX12_addPhrase_115 rfl rfl ?_
          obtain ⟨g10, h⟩ := h
          refine gm_iast C 16 (by decide) rfl g10 dX12_addPhrase_116 ?_
          refine gm_nameT (fun t11 et11 => ?_)
          have h := h t11 et11
          refine gm_aload C 0 dX12_addPhrase_117 rfl ?_
          refine gm_getA C 17 (by decide) rfl wf_56 rfl dX12_addPhrase_118 ?_
          refine gm_aload C 0 dX12_addPhrase_121 rfl ?_
          refine gm_getI C 14 (by decide) rfl wf_181 rfl dX12_addPhrase_122 ?_
          refine gm_iloadn C 3 3 dX12_addPhrase_125 rfl rfl ?_
          obtain ⟨g12, h⟩ := h
          refine gm_iast C 17 (by decide) rfl g12 dX12_addPhrase_126 ?_
          refine gm_nameT (fun t13 et13 => ?_)
          have h := h t13 et13
          refine gm_aload C 0 dX12_addPhrase_127 rfl ?_
          refine gm_getA C 18 (by decide) rfl wf_59 rfl dX12_addPhrase_128 ?_
          refine gm_aload C 0 dX12_addPhrase_131 rfl ?_
          refine gm_getI C 14 (by decide) rfl wf_181 rfl dX12_addPhrase_132 ?_
          refine gm_iload C 4 dX12_addPhrase_135 rfl ?_
          obtain ⟨g14, h⟩ := h
          refine gm_iast C 18 (by decide) rfl g14 dX12_addPhrase_137 ?_
          refine gm_nameT (fun t15 et15 => ?_)
          have h := h t15 et15
          refine gm_aload C 0 dX12_addPhrase_138 rfl ?_
          refine gm_getA C 19 (by decide) rfl wf_62 rfl dX12_addPhrase_139 ?_
          refine gm_aload C 0 dX12_addPhrase_142 rfl ?_
          refine gm_getI C 14 (by decide) rfl wf_181 rfl dX12_addPhrase_143 ?_
          refine gm_iload C 5 dX12_addPhrase_146 rfl ?_
          obtain ⟨g16, h⟩ := h
          refine gm_iast C 19 (by decide) rfl g16 dX12_addPhrase_148 ?_
          refine gm_nameT (fun t17 et17 => ?_)
          have h := h t17 et17
          refine gm_aload C 0 dX12_addPhrase_149 rfl ?_
          refine gm_dup C dX12_addPhrase_150 rfl ?_
          refine gm_getI C 14 (by decide) rfl wf_181 rfl dX12_addPhrase_151 ?_
          refine gm_iconst C 1 dX12_addPhrase_154 (by decide) ?_
          refine gm_iadd C dX12_addPhrase_155 ?_
          refine gm_putI C 14 (by decide) rfl wf_181 rfl rfl (by decide +kernel) dX12_addPhrase_156 ?_
          refine gm_nameT (fun t18 et18 => ?_)
          have h := h t18 et18
          refine gm_aload C 0 dX12_addPhrase_159 rfl ?_
          refine gm_getI C 14 (by decide) rfl wf_181 rfl dX12_addPhrase_160 ?_
          refine gm_iconst C 1 dX12_addPhrase_163 (by decide) ?_
          refine gm_isub C dX12_addPhrase_164 ?_
          exact gm_iret C E dX12_addPhrase_165 ⟨_, rfl, h⟩
        · have h := h.1 c92_9
          refine gm_iconst C 0 dX12_addPhrase_95 (by decide) ?_
          exact gm_iret C E dX12_addPhrase_96 ⟨_, rfl, h⟩
      refine gm_if_eq C 88 dX12_addPhrase_72 (by decide) (fun c72_7 => ?_) (fun c72_7 => ?_)
      · refine gm_iconst C 0 dX12_addPhrase_88 (by decide) ?_
        refine gm_sub [1, 2, 3, 4, 5, 6] rfl ?_
        exact k89 _ ((if_neg (fun q0 => q0.1 c72_7)).symm)
      · refine gm_aload C 1 dX12_addPhrase_75 rfl ?_
        refine gm_getI C 14 (by decide) rfl wf_181 rfl dX12_addPhrase_76 ?_
        refine gm_bipush C 20 dX12_addPhrase_79 (by decide) ?_
        refine gm_icmp_ge C 88 dX12_addPhrase_81 (by decide) (fun c81_8 => ?_) (fun c81_8 => ?_)
        · refine gm_iconst C 0 dX12_addPhrase_88 (by decide) ?_
          refine gm_sub [1, 2, 3, 4, 5, 6] rfl ?_
          exact k89 _ ((if_neg (fun q0 => (fun q1 => q1 c81_8) q0.2)).symm)
        · refine gm_iconst C 1 dX12_addPhrase_84 (by decide) ?_
          refine gm_goto C 89 dX12_addPhrase_85 (by decide) ?_
          refine gm_sub [1, 2, 3, 4, 5, 6] rfl ?_
          exact k89 _ ((if_pos ⟨c72_7, c81_8⟩).symm)
    refine gm_icmp_gt C 58 dX12_addPhrase_43 (by decide) (fun c43_4 => ?_) (fun c43_4 => ?_)
    · refine gm_iconst C 1 dX12_addPhrase_58 (by decide) ?_
      refine gm_goto C 63 dX12_addPhrase_59 (by decide) ?_
      refine gm_sub [1, 2, 3, 4, 5, 6, 7, 0] rfl ?_
      exact k63 _ ((if_pos (Or.inl c43_4)).symm)
    · refine gm_iload C 5 dX12_addPhrase_46 rfl ?_
      refine gm_iloadn C 3 2 dX12_addPhrase_48 rfl rfl ?_
      refine gm_icmp_ne C 62 dX12_addPhrase_49 (by decide) (fun c49_5 => ?_) (fun c49_5 => ?_)
      · refine gm_iconst C 0 dX12_addPhrase_62 (by decide) ?_
        refine gm_sub [1, 2, 3, 4, 5, 6, 7, 0] rfl ?_
        exact k63 _ ((if_neg (fun q0 => Or.elim q0 c43_4 (fun q1 => c49_5 q1.1))).symm)
      · refine gm_iload C 6 dX12_addPhrase_52 rfl ?_
        refine gm_iloadn C 4 3 dX12_addPhrase_54 rfl rfl ?_
        refine gm_icmp_le C 62 dX12_addPhrase_55 (by decide) (fun c55_6 => ?_) (fun c55_6 => ?_)
        · refine gm_iconst C 0 dX12_addPhrase_62 (by decide) ?_
          refine gm_sub [1, 2, 3, 4, 5, 6, 7, 0] rfl ?_
          exact k63 _ ((if_neg (fun q0 => Or.elim q0 c43_4 (fun q1 => (fun q2 => q2 c55_6) q1.2))).symm)
        · refine gm_iconst C 1 dX12_addPhrase_58 (by decide) ?_
          refine gm_goto C 63 dX12_addPhrase_59 (by decide) ?_
          refine gm_sub [1, 2, 3, 4, 5, 6, 7, 0] rfl ?_
          exact k63 _ ((if_pos (Or.inr ⟨c49_5, c55_6⟩)).symm)
  refine gm_if_eq C 37 dX12_addPhrase_8 (by decide) (fun c8_1 => ?_) (fun c8_1 => ?_)
  · refine gm_iconst C 0 dX12_addPhrase_37 (by decide) ?_
    refine gm_sub [1, 2, 3, 4, 5, 6, 0] rfl ?_
    exact k38 _ ((if_neg (fun q0 => q0.1 c8_1)).symm)
  · refine gm_aload C 1 dX12_addPhrase_11 rfl ?_
    refine gm_iloadn C 2 1 dX12_addPhrase_12 rfl rfl ?_
    refine gm_iloadn C 3 2 dX12_addPhrase_13 rfl rfl ?_
    refine gm_iloadn C 4 3 dX12_addPhrase_14 rfl rfl ?_
    refine gm_callV C (y := yX12_isEvent) (as := [.int a1, .int a2, .int a3]) rfl (by decide) (by decide) (c_isEvent l D cI cZ mo ad a1 a2 a3 t (g3 c8_1)) hy_isEvent rfl wl_198 cu_isEvent dX12_addPhrase_15 (Nat.le_of_ble_eq_true rfl) (kP ?_)
    refine gm_if_eq C 37 dX12_addPhrase_18 (by decide) (fun c18_2 => ?_) (fun c18_2 => ?_)
    · refine gm_iconst C 0 dX12_addPhrase_37 (by decide) ?_
      refine gm_sub [1, 2, 3, 4, 5, 6, 0] rfl ?_
      exact k38 _ ((if_neg (fun q0 => (fun q1 => q1.1 c18_2) q0.2)).symm)
    · refine gm_aload C 1 dX12_addPhrase_21 rfl ?_
      refine gm_iloadn C 2 1 dX12_addPhrase_22 rfl rfl ?_
      refine gm_iload C 5 dX12_addPhrase_23 rfl ?_
      refine gm_iload C 6 dX12_addPhrase_25 rfl ?_
      refine gm_callV C (y := yX12_isEvent) (as := [.int a1, .int a4, .int a5]) rfl (by decide) (by decide) (c_isEvent l D cI cZ mo ad a1 a4 a5 t (g4 c8_1 c18_2)) hy_isEvent rfl wl_198 cu_isEvent dX12_addPhrase_27 (Nat.le_of_ble_eq_true rfl) (kP ?_)
      refine gm_if_eq C 37 dX12_addPhrase_30 (by decide) (fun c30_3 => ?_) (fun c30_3 => ?_)
      · refine gm_iconst C 0 dX12_addPhrase_37 (by decide) ?_
        refine gm_sub [1, 2, 3, 4, 5, 6, 0] rfl ?_
        exact k38 _ ((if_neg (fun q0 => (fun q1 => (fun q2 => q2 c30_3) q1.2) q0.2)).symm)
      · refine gm_iconst C 1 dX12_addPhrase_33 (by decide) ?_
        refine gm_goto C 38 dX12_addPhrase_34 (by decide) ?_
        refine gm_sub [1, 2, 3, 4, 5, 6, 0] rfl ?_
        exact k38 _ ((if_pos ⟨c8_1, ⟨c18_2, c30_3⟩⟩).symm)
def w_dropPhrase (a1 : Int32) (t : MS) (Q : Int32 → MS → Prop) : Prop := w_goes (v_in a1 0 ((mgI t 14) - 1)) 1 1 t (fun r1 t1 => ((r1 = 0) → Q 0 t1) ∧ (¬ (r1 = 0) → (mIn 20 a1) ∧ ∀ x3 : Int32, x3 = (if (mgA t1 20 a1) = 0 then 1 else 0) → (mIn 20 a1) ∧ ∀ t5 : MS, t5 = msA t1 20 a1 1 → (gb x3) ∧ Q x3 t5))
set_option maxRecDepth 20000 in
set_option maxHeartbeats 2000000 in
theorem c_dropPhrase (l : Launch) (D : va_G) (cI cZ : ClassId) (mo : Nat) (ad : Nat → Nat) (a1 : Int32) (t : MS) (Q : Int32 → MS → Prop) (h : w_dropPhrase a1 t Q) : MetM l yX12_dropPhrase cX12_dropPhrase 3 (some .boolean) 1 [.ref mo, .int a1] (pI Q) D cI cZ mo ad t := by
  unfold w_dropPhrase at h
  refine gm_start (by decide) rfl (Nat.le_of_ble_eq_true rfl) (fun p e s m args below meth c C E => ?_)
  refine gm_aload C 0 dX12_dropPhrase_0 rfl ?_
  refine gm_iloadn C 1 1 dX12_dropPhrase_1 rfl rfl ?_
  refine gm_iconst C 0 dX12_dropPhrase_2 (by decide) ?_
  refine gm_aload C 0 dX12_dropPhrase_3 rfl ?_
  refine gm_getI C 14 (by decide) rfl wf_181 rfl dX12_dropPhrase_4 ?_
  refine gm_iconst C 1 dX12_dropPhrase_7 (by decide) ?_
  refine gm_isub C dX12_dropPhrase_8 ?_
  refine gm_callS C (y := yX12_in) (as := [.int a1, .int 0, .int ((mgI t 14) - 1)]) rfl (by decide) (by decide) (c_in l D cI cZ mo ad a1 0 ((mgI t 14) - 1) t) hy_in rfl wl_135 cu_in dX12_dropPhrase_9 (Nat.le_of_ble_eq_true rfl) (kP ?_)
  refine gm_iconst C 1 dX12_dropPhrase_12 (by decide) ?_
  refine gm_iconst C 1 dX12_dropPhrase_13 (by decide) ?_
  refine gm_callV C (y := yX12_goes) (as := [.int (v_in a1 0 ((mgI t 14) - 1)), .int 1, .int 1]) rfl (by decide) (by decide) (c_goes l D cI cZ mo ad (v_in a1 0 ((mgI t 14) - 1)) 1 1 t _ h) hy_goes rfl wl_165 cu_goes dX12_dropPhrase_14 (Nat.le_of_ble_eq_true rfl) (kI (fun r1 t1 h => ?_))
  refine gm_if_ne C 22 dX12_dropPhrase_17 (by decide) (fun c17_1 => ?_) (fun c17_1 => ?_)
  · have h := h.2 c17_1
    refine gm_aload C 0 dX12_dropPhrase_22 rfl ?_
    refine gm_getA C 20 (by decide) rfl wf_65 rfl dX12_dropPhrase_23 ?_
    refine gm_iloadn C 1 1 dX12_dropPhrase_26 rfl rfl ?_
    obtain ⟨g2, h⟩ := h
    refine gm_bald C 20 (by decide) rfl g2 dX12_dropPhrase_27 ?_
    have k36 : ∀ x3 : Int32, x3 = (if (mgA t1 20 a1) = 0 then 1 else 0) → GM p l e (rmD 1) s m args below meth c 3 D cI cZ mo ad (gm_Q below D cI cZ mo ad (pI Q t) args s) t1 36 [(0, .ref mo), (1, .int a1)] [.int x3] := by
      intro x3 ex3
      have h := h x3 ex3
      refine gm_istoren C 2 [(2, .int x3), (0, .ref mo), (1, .int a1)] dX12_dropPhrase_36 rfl (by decide) rfl ?_
      refine gm_aload C 1 dX12_dropPhrase_37 rfl ?_
      refine gm_getA C 20 (by decide) rfl wf_65 rfl dX12_dropPhrase_38 ?_
      refine gm_iloadn C 2 1 dX12_dropPhrase_41 rfl rfl ?_
      refine gm_iconst C 1 dX12_dropPhrase_42 (by decide) ?_
      obtain ⟨g4, h⟩ := h
      refine gm_bast C 20 (by decide) rfl g4 (Or.inr rfl) dX12_dropPhrase_43 ?_
      refine gm_nameT (fun t5 et5 => ?_)
      have h := h t5 et5
      refine gm_iloadn C 0 2 dX12_dropPhrase_44 rfl rfl ?_
      obtain ⟨g6, h⟩ := h
      exact gm_zret C E g6 dX12_dropPhrase_45 ⟨_, rfl, h⟩
    refine gm_if_ne C 35 dX12_dropPhrase_28 (by decide) (fun c28_2 => ?_) (fun c28_2 => ?_)
    · refine gm_iconst C 0 dX12_dropPhrase_35 (by decide) ?_
      exact k36 _ ((if_neg c28_2).symm)
    · refine gm_iconst C 1 dX12_dropPhrase_31 (by decide) ?_
      refine gm_goto C 36 dX12_dropPhrase_32 (by decide) ?_
      exact k36 _ ((if_pos c28_2).symm)
  · have h := h.1 c17_1
    refine gm_iconst C 0 dX12_dropPhrase_20 (by decide) ?_
    exact gm_zret C E (Or.inl rfl) dX12_dropPhrase_21 ⟨_, rfl, h⟩
def w_phrases_L4 (t : MS) (Q : Int32 → MS → Prop) (K4 : (Int32 × Int32) → Prop) (z4 : Int32 × Int32) : Prop := (((mgI t 14) ≤ z4.2) → w_tells z4.1 t (fun r1 t1 => Q r1 t1)) ∧ (¬ ((mgI t 14) ≤ z4.2) → (mIn 20 z4.2) ∧ ∀ x3 : Int32, x3 = (if (mgA t 20 z4.2) = 0 then 1 else 0) → ∀ x4 : Int32, x4 = (z4.1 + x3) → K4 (x4, (z4.2 + 1)))
def w_phrases (t : MS) (Q : Int32 → MS → Prop) : Prop := ∃ n, lp (w_phrases_L4 t Q) n (0, 0)
set_option maxRecDepth 20000 in
set_option maxHeartbeats 2000000 in
theorem c_phrases (l : Launch) (D : va_G) (cI cZ : ClassId) (mo : Nat) (ad : Nat → Nat) (t : MS) (Q : Int32 → MS → Prop) (h : w_phrases t Q) : MetM l yX12_phrases cX12_phrases 3 (some .int) 1 [.ref mo] (pI Q) D cI cZ mo ad t := by
  unfold w_phrases at h
  refine gm_start (by decide) rfl (Nat.le_of_ble_eq_true rfl) (fun p e s m args below meth c C E => ?_)
  refine gm_iconst C 0 dX12_phrases_0 (by decide) ?_
  refine gm_istoren C 1 [(1, .int 0), (0, .ref mo)] dX12_phrases_1 rfl (by decide) rfl ?_
  refine gm_iconst C 0 dX12_phrases_2 (by decide) ?_
  refine gm_istoren C 2 [(2, .int 0), (1, .int 0), (0, .ref mo)] dX12_phrases_3 rfl (by decide) rfl ?_
  refine gm_sub [2, 1, 0] rfl ?_
  obtain ⟨n4, h⟩ := h
  have k4 : ∀ (n4 : Nat) (z4 : Int32 × Int32), lp (w_phrases_L4 t Q) n4 z4 → GM p l e (rmD 1) s m args below meth c 3 D cI cZ mo ad (gm_Q below D cI cZ mo ad (pI Q t) args s) t 4 [(0, .ref mo), (1, .int z4.1), (2, .int z4.2)] [] := by
    intro n4
    induction n4 with
    | zero => intro z4 h; exact h.elim
    | succ n4 ih4 =>
      intro z4 h
      have h : w_phrases_L4 t Q (lp (w_phrases_L4 t Q) n4) z4 := h
      unfold w_phrases_L4 at h
      refine gm_iloadn C 2 2 dX12_phrases_4 rfl rfl ?_
      refine gm_aload C 0 dX12_phrases_5 rfl ?_
      refine gm_getI C 14 (by decide) rfl wf_181 rfl dX12_phrases_6 ?_
      refine gm_icmp_ge C 35 dX12_phrases_9 (by decide) (fun c9_1 => ?_) (fun c9_1 => ?_)
      · have h := h.1 c9_1
        refine gm_aload C 0 dX12_phrases_35 rfl ?_
        refine gm_iloadn C 1 1 dX12_phrases_36 rfl rfl ?_
        refine gm_callV C (y := yX12_tells) (as := [.int z4.1]) rfl (by decide) (by decide) (c_tells l D cI cZ mo ad z4.1 t _ h) hy_tells rfl wl_175 cu_tells dX12_phrases_37 (Nat.le_of_ble_eq_true rfl) (kI (fun r1 t1 h => ?_))
        exact gm_iret C E dX12_phrases_40 ⟨_, rfl, h⟩
      · have h := h.2 c9_1
        refine gm_iloadn C 1 1 dX12_phrases_12 rfl rfl ?_
        refine gm_aload C 0 dX12_phrases_13 rfl ?_
        refine gm_getA C 20 (by decide) rfl wf_65 rfl dX12_phrases_14 ?_
        refine gm_iloadn C 2 2 dX12_phrases_17 rfl rfl ?_
        obtain ⟨g2, h⟩ := h
        refine gm_bald C 20 (by decide) rfl g2 dX12_phrases_18 ?_
        have k27 : ∀ x3 : Int32, x3 = (if (mgA t 20 z4.2) = 0 then 1 else 0) → GM p l e (rmD 1) s m args below meth c 3 D cI cZ mo ad (gm_Q below D cI cZ mo ad (pI Q t) args s) t 27 [(0, .ref mo), (2, .int z4.2)] [.int x3, .int z4.1] := by
          intro x3 ex3
          have h := h x3 ex3
          refine gm_iadd C dX12_phrases_27 ?_
          refine gm_nameI (fun x4 ex4 => ?_)
          have h := h x4 ex4
          refine gm_istoren C 1 [(1, .int x4), (0, .ref mo), (2, .int z4.2)] dX12_phrases_28 rfl (by decide) rfl ?_
          refine gm_iinc C 2 (z4.2 + 1) [(2, .int (z4.2 + 1)), (1, .int x4), (0, .ref mo)] dX12_phrases_29 rfl rfl (by decide) rfl ?_
          refine gm_goto C 4 dX12_phrases_32 (by decide) ?_
          refine gm_sub [2, 1, 0] rfl ?_
          have h9 := ih4 (x4, (z4.2 + 1)) h
          exact h9
        refine gm_if_eq C 26 dX12_phrases_19 (by decide) (fun c19_2 => ?_) (fun c19_2 => ?_)
        · refine gm_iconst C 1 dX12_phrases_26 (by decide) ?_
          refine gm_sub [0, 2] rfl ?_
          exact k27 _ ((if_pos c19_2).symm)
        · refine gm_iconst C 0 dX12_phrases_22 (by decide) ?_
          refine gm_goto C 27 dX12_phrases_23 (by decide) ?_
          refine gm_sub [0, 2] rfl ?_
          exact k27 _ ((if_neg c19_2).symm)
  exact k4 n4 (0, 0) h
def w_allowTurn (a1 a2 a3 : Int32) (t : MS) (Q : Int32 → MS → Prop) : Prop := w_goes (v_isVoice a1) (v_isBar a2 t) 1 t (fun r1 t1 => ((r1 = 0) → Q 0 t1) ∧ (¬ (r1 = 0) → (mIn 7 (v_at a1 a2)) ∧ ∀ x3 : Int32, x3 = (mgA t1 7 (v_at a1 a2)) → (mIn 7 (v_at a1 a2)) ∧ (gb a3) ∧ ∀ t6 : MS, t6 = msA t1 7 (v_at a1 a2) a3 → (gb x3) ∧ Q x3 t6))
set_option maxRecDepth 20000 in
set_option maxHeartbeats 2000000 in
theorem c_allowTurn (l : Launch) (D : va_G) (cI cZ : ClassId) (mo : Nat) (ad : Nat → Nat) (a1 a2 a3 : Int32) (t : MS) (Q : Int32 → MS → Prop) (h : w_allowTurn a1 a2 a3 t Q) : MetM l yX12_allowTurn cX12_allowTurn 5 (some .boolean) 2 [.ref mo, .int a1, .int a2, .int a3] (pI Q) D cI cZ mo ad t := by
  unfold w_allowTurn at h
  refine gm_start (by decide) rfl (Nat.le_of_ble_eq_true rfl) (fun p e s m args below meth c C E => ?_)
  refine gm_aload C 0 dX12_allowTurn_0 rfl ?_
  refine gm_iloadn C 1 1 dX12_allowTurn_1 rfl rfl ?_
  refine gm_callS C (y := yX12_isVoice) (as := [.int a1]) rfl (by decide) (by decide) (c_isVoice l D cI cZ mo ad a1 t) hy_isVoice rfl wl_184 cu_isVoice dX12_allowTurn_2 (Nat.le_of_ble_eq_true rfl) (kP ?_)
  refine gm_aload C 0 dX12_allowTurn_5 rfl ?_
  refine gm_iloadn C 2 2 dX12_allowTurn_6 rfl rfl ?_
  refine gm_callV C (y := yX12_isBar) (as := [.int a2]) rfl (by decide) (by decide) (c_isBar l D cI cZ mo ad a2 t) hy_isBar rfl wl_143 cu_isBar dX12_allowTurn_7 (Nat.le_of_ble_eq_true rfl) (kP ?_)
  refine gm_iconst C 1 dX12_allowTurn_10 (by decide) ?_
  refine gm_callV C (y := yX12_goes) (as := [.int (v_isVoice a1), .int (v_isBar a2 t), .int 1]) rfl (by decide) (by decide) (c_goes l D cI cZ mo ad (v_isVoice a1) (v_isBar a2 t) 1 t _ h) hy_goes rfl wl_165 cu_goes dX12_allowTurn_11 (Nat.le_of_ble_eq_true rfl) (kI (fun r1 t1 h => ?_))
  refine gm_if_ne C 19 dX12_allowTurn_14 (by decide) (fun c14_1 => ?_) (fun c14_1 => ?_)
  · have h := h.2 c14_1
    refine gm_aload C 0 dX12_allowTurn_19 rfl ?_
    refine gm_getA C 7 (by decide) rfl wf_28 rfl dX12_allowTurn_20 ?_
    refine gm_iloadn C 1 1 dX12_allowTurn_23 rfl rfl ?_
    refine gm_iloadn C 2 2 dX12_allowTurn_24 rfl rfl ?_
    refine gm_callS C (y := yX12_at) (as := [.int a1, .int a2]) rfl (by decide) (by decide) (c_at l D cI cZ mo ad a1 a2 t1) hy_at rfl wl_139 cu_at dX12_allowTurn_25 (Nat.le_of_ble_eq_true rfl) (kP ?_)
    obtain ⟨g2, h⟩ := h
    refine gm_bald C 7 (by decide) rfl g2 dX12_allowTurn_28 ?_
    refine gm_nameI (fun x3 ex3 => ?_)
    have h := h x3 ex3
    refine gm_istore C [(4, .int x3), (0, .ref mo), (1, .int a1), (2, .int a2), (3, .int a3)] dX12_allowTurn_29 (by decide) rfl ?_
    refine gm_aload C 1 dX12_allowTurn_31 rfl ?_
    refine gm_getA C 7 (by decide) rfl wf_28 rfl dX12_allowTurn_32 ?_
    refine gm_iloadn C 2 1 dX12_allowTurn_35 rfl rfl ?_
    refine gm_iloadn C 3 2 dX12_allowTurn_36 rfl rfl ?_
    refine gm_callS C (y := yX12_at) (as := [.int a1, .int a2]) rfl (by decide) (by decide) (c_at l D cI cZ mo ad a1 a2 t1) hy_at rfl wl_139 cu_at dX12_allowTurn_37 (Nat.le_of_ble_eq_true rfl) (kP ?_)
    refine gm_iloadn C 4 3 dX12_allowTurn_40 rfl rfl ?_
    obtain ⟨g4, h⟩ := h
    obtain ⟨g5, h⟩ := h
    refine gm_bast C 7 (by decide) rfl g4 g5 dX12_allowTurn_41 ?_
    refine gm_nameT (fun t6 et6 => ?_)
    have h := h t6 et6
    refine gm_iload C 0 dX12_allowTurn_42 rfl ?_
    obtain ⟨g7, h⟩ := h
    exact gm_zret C E g7 dX12_allowTurn_44 ⟨_, rfl, h⟩
  · have h := h.1 c14_1
    refine gm_iconst C 0 dX12_allowTurn_17 (by decide) ?_
    exact gm_zret C E (Or.inl rfl) dX12_allowTurn_18 ⟨_, rfl, h⟩
def w_repeats_L4 (t : MS) (Q : Int32 → MS → Prop) (K4 : (Int32 × Int32) → Prop) (z4 : Int32 × Int32) : Prop := (((mgI t 0) ≤ z4.2) → Q z4.1 t) ∧ (¬ ((mgI t 0) ≤ z4.2) → (mIn 4 z4.2) ∧ ∀ x2 : Int32, x2 = (if ¬ ((mgA t 4 z4.2) = (-1)) then 1 else 0) → ∀ x3 : Int32, x3 = (z4.1 + x2) → K4 (x3, (z4.2 + 1)))
def w_repeats (t : MS) (Q : Int32 → MS → Prop) : Prop := ∃ n, lp (w_repeats_L4 t Q) n (0, 0)
set_option maxRecDepth 20000 in
set_option maxHeartbeats 2000000 in
theorem c_repeats (l : Launch) (D : va_G) (cI cZ : ClassId) (mo : Nat) (ad : Nat → Nat) (t : MS) (Q : Int32 → MS → Prop) (h : w_repeats t Q) : MetM l yX12_repeats cX12_repeats 3 (some .int) 0 [.ref mo] (pI Q) D cI cZ mo ad t := by
  unfold w_repeats at h
  refine gm_start (by decide) rfl (Nat.le_of_ble_eq_true rfl) (fun p e s m args below meth c C E => ?_)
  refine gm_iconst C 0 dX12_repeats_0 (by decide) ?_
  refine gm_istoren C 1 [(1, .int 0), (0, .ref mo)] dX12_repeats_1 rfl (by decide) rfl ?_
  refine gm_iconst C 0 dX12_repeats_2 (by decide) ?_
  refine gm_istoren C 2 [(2, .int 0), (1, .int 0), (0, .ref mo)] dX12_repeats_3 rfl (by decide) rfl ?_
  refine gm_sub [2, 1, 0] rfl ?_
  obtain ⟨n4, h⟩ := h
  have k4 : ∀ (n4 : Nat) (z4 : Int32 × Int32), lp (w_repeats_L4 t Q) n4 z4 → GM p l e (rmD 0) s m args below meth c 3 D cI cZ mo ad (gm_Q below D cI cZ mo ad (pI Q t) args s) t 4 [(0, .ref mo), (1, .int z4.1), (2, .int z4.2)] [] := by
    intro n4
    induction n4 with
    | zero => intro z4 h; exact h.elim
    | succ n4 ih4 =>
      intro z4 h
      have h : w_repeats_L4 t Q (lp (w_repeats_L4 t Q) n4) z4 := h
      unfold w_repeats_L4 at h
      refine gm_iloadn C 2 2 dX12_repeats_4 rfl rfl ?_
      refine gm_aload C 0 dX12_repeats_5 rfl ?_
      refine gm_getI C 0 (by decide) rfl wf_132 rfl dX12_repeats_6 ?_
      refine gm_icmp_ge C 36 dX12_repeats_9 (by decide) (fun c9_1 => ?_) (fun c9_1 => ?_)
      · have h := h.1 c9_1
        refine gm_iloadn C 1 1 dX12_repeats_36 rfl rfl ?_
        exact gm_iret C E dX12_repeats_37 ⟨_, rfl, h⟩
      · have h := h.2 c9_1
        refine gm_iloadn C 1 1 dX12_repeats_12 rfl rfl ?_
        refine gm_aload C 0 dX12_repeats_13 rfl ?_
        refine gm_getA C 4 (by decide) rfl wf_19 rfl dX12_repeats_14 ?_
        refine gm_iloadn C 2 2 dX12_repeats_17 rfl rfl ?_
        obtain ⟨g1, h⟩ := h
        refine gm_iald C 4 (by decide) rfl g1 dX12_repeats_18 ?_
        refine gm_iconst C (-1) dX12_repeats_19 (by decide) ?_
        have k28 : ∀ x2 : Int32, x2 = (if ¬ ((mgA t 4 z4.2) = (-1)) then 1 else 0) → GM p l e (rmD 0) s m args below meth c 3 D cI cZ mo ad (gm_Q below D cI cZ mo ad (pI Q t) args s) t 28 [(0, .ref mo), (2, .int z4.2)] [.int x2, .int z4.1] := by
          intro x2 ex2
          have h := h x2 ex2
          refine gm_iadd C dX12_repeats_28 ?_
          refine gm_nameI (fun x3 ex3 => ?_)
          have h := h x3 ex3
          refine gm_istoren C 1 [(1, .int x3), (0, .ref mo), (2, .int z4.2)] dX12_repeats_29 rfl (by decide) rfl ?_
          refine gm_iinc C 2 (z4.2 + 1) [(2, .int (z4.2 + 1)), (1, .int x3), (0, .ref mo)] dX12_repeats_30 rfl rfl (by decide) rfl ?_
          refine gm_goto C 4 dX12_repeats_33 (by decide) ?_
          refine gm_sub [2, 1, 0] rfl ?_
          have h9 := ih4 (x3, (z4.2 + 1)) h
          exact h9
        refine gm_icmp_ne C 27 dX12_repeats_20 (by decide) (fun c20_2 => ?_) (fun c20_2 => ?_)
        · refine gm_iconst C 1 dX12_repeats_27 (by decide) ?_
          refine gm_sub [0, 2] rfl ?_
          exact k28 _ ((if_pos c20_2).symm)
        · refine gm_iconst C 0 dX12_repeats_23 (by decide) ?_
          refine gm_goto C 28 dX12_repeats_24 (by decide) ?_
          refine gm_sub [0, 2] rfl ?_
          exact k28 _ ((if_neg (fun q0 => q0 c20_2)).symm)
  exact k4 n4 (0, 0) h
def w_addRepeat_L29 (a1 : Int32) (a2 : Int32) (a3 : Int32) (t : MS) (Q : Int32 → MS → Prop) (x1 : Int32) (K29 : (Int32 × Int32) → Prop) (z29 : Int32 × Int32) : Prop := (((mgI t 0) ≤ z29.2) → ∀ x2 : Int32, x2 = (if (¬ (a2 < a1)) ∧ (¬ ((v_in a3 0 (a2 - a1)) = 0)) then 1 else 0) → w_goes x1 x2 z29.1 t (fun r3 t3 => ((r3 = 0) → Q 0 t3) ∧ (¬ (r3 = 0) → (mIn 4 a1) ∧ ∀ t5 : MS, t5 = msA t3 4 a1 a2 → (mIn 5 a1) ∧ ∀ t7 : MS, t7 = msA t5 5 a1 a3 → w_repeats t7 (fun r8 t8 => Q r8 t8)))) ∧ (¬ ((mgI t 0) ≤ z29.2) → ((¬ (z29.1 = 0)) → mIn 4 z29.2) ∧ ((¬ (z29.1 = 0)) → (¬ ((mgA t 4 z29.2) = (-1))) → mIn 4 z29.2) ∧ ∀ x9 : Int32, x9 = (if (¬ (z29.1 = 0)) ∧ (((mgA t 4 z29.2) = (-1)) ∨ (((mgA t 4 z29.2) < a1) ∨ (¬ (z29.2 ≤ a2)))) then 1 else 0) → K29 (x9, (z29.2 + 1)))
def w_addRepeat (a1 a2 a3 : Int32) (t : MS) (Q : Int32 → MS → Prop) : Prop := ∀ x1 : Int32, x1 = (if (¬ ((v_isBar a1 t) = 0)) ∧ (¬ ((v_isBar a2 t) = 0)) then 1 else 0) → ∃ n, lp (w_addRepeat_L29 a1 a2 a3 t Q x1) n (1, 0)
set_option maxRecDepth 20000 in
set_option maxHeartbeats 2000000 in
theorem c_addRepeat (l : Launch) (D : va_G) (cI cZ : ClassId) (mo : Nat) (ad : Nat → Nat) (a1 a2 a3 : Int32) (t : MS) (Q : Int32 → MS → Prop) (h : w_addRepeat a1 a2 a3 t Q) : MetM l yX12_addRepeat cX12_addRepeat 7 (some .int) 2 [.ref mo, .int a1, .int a2, .int a3] (pI Q) D cI cZ mo ad t := by
  unfold w_addRepeat at h
  refine gm_start (by decide) rfl (Nat.le_of_ble_eq_true rfl) (fun p e s m args below meth c C E => ?_)
  refine gm_aload C 0 dX12_addRepeat_0 rfl ?_
  refine gm_iloadn C 1 1 dX12_addRepeat_1 rfl rfl ?_
  refine gm_callV C (y := yX12_isBar) (as := [.int a1]) rfl (by decide) (by decide) (c_isBar l D cI cZ mo ad a1 t) hy_isBar rfl wl_143 cu_isBar dX12_addRepeat_2 (Nat.le_of_ble_eq_true rfl) (kP ?_)
  have k21 : ∀ x1 : Int32, x1 = (if (¬ ((v_isBar a1 t) = 0)) ∧ (¬ ((v_isBar a2 t) = 0)) then 1 else 0) → GM p l e (rmD 2) s m args below meth c 7 D cI cZ mo ad (gm_Q below D cI cZ mo ad (pI Q t) args s) t 21 [(0, .ref mo), (1, .int a1), (2, .int a2), (3, .int a3)] [.int x1] := by
    intro x1 ex1
    have h := h x1 ex1
    refine gm_istore C [(4, .int x1), (0, .ref mo), (1, .int a1), (2, .int a2), (3, .int a3)] dX12_addRepeat_21 (by decide) rfl ?_
    refine gm_iconst C 1 dX12_addRepeat_23 (by decide) ?_
    refine gm_istore C [(5, .int 1), (4, .int x1), (0, .ref mo), (1, .int a1), (2, .int a2), (3, .int a3)] dX12_addRepeat_24 (by decide) rfl ?_
    refine gm_iconst C 0 dX12_addRepeat_26 (by decide) ?_
    refine gm_istore C [(6, .int 0), (5, .int 1), (4, .int x1), (0, .ref mo), (1, .int a1), (2, .int a2), (3, .int a3)] dX12_addRepeat_27 (by decide) rfl ?_
    refine gm_sub [3, 4, 5, 6, 2, 1, 0] rfl ?_
    obtain ⟨n29, h⟩ := h
    have k29 : ∀ (n29 : Nat) (z29 : Int32 × Int32), lp (w_addRepeat_L29 a1 a2 a3 t Q x1) n29 z29 → GM p l e (rmD 2) s m args below meth c 7 D cI cZ mo ad (gm_Q below D cI cZ mo ad (pI Q t) args s) t 29 [(0, .ref mo), (1, .int a1), (2, .int a2), (3, .int a3), (4, .int x1), (5, .int z29.1), (6, .int z29.2)] [] := by
      intro n29
      induction n29 with
      | zero => intro z29 h; exact h.elim
      | succ n29 ih29 =>
        intro z29 h
        have h : w_addRepeat_L29 a1 a2 a3 t Q x1 (lp (w_addRepeat_L29 a1 a2 a3 t Q x1) n29) z29 := h
        unfold w_addRepeat_L29 at h
        refine gm_iload C 6 dX12_addRepeat_29 rfl ?_
        refine gm_aload C 0 dX12_addRepeat_31 rfl ?_
        refine gm_getI C 0 (by decide) rfl wf_132 rfl dX12_addRepeat_32 ?_
        refine gm_icmp_ge C 84 dX12_addRepeat_35 (by decide) (fun c35_3 => ?_) (fun c35_3 => ?_)
        · have h := h.1 c35_3
          refine gm_aload C 0 dX12_addRepeat_84 rfl ?_
          refine gm_iload C 4 dX12_addRepeat_85 rfl ?_
          refine gm_iloadn C 2 2 dX12_addRepeat_87 rfl rfl ?_
          refine gm_iloadn C 1 1 dX12_addRepeat_88 rfl rfl ?_
          have k108 : ∀ x2 : Int32, x2 = (if (¬ (a2 < a1)) ∧ (¬ ((v_in a3 0 (a2 - a1)) = 0)) then 1 else 0) → GM p l e (rmD 2) s m args below meth c 7 D cI cZ mo ad (gm_Q below D cI cZ mo ad (pI Q t) args s) t 108 [(0, .ref mo), (1, .int a1), (2, .int a2), (3, .int a3), (5, .int z29.1)] [.int x2, .int x1, .ref mo] := by
            intro x2 ex2
            have h := h x2 ex2
            refine gm_iload C 4 dX12_addRepeat_108 rfl ?_
            refine gm_callV C (y := yX12_goes) (as := [.int x1, .int x2, .int z29.1]) rfl (by decide) (by decide) (c_goes l D cI cZ mo ad x1 x2 z29.1 t _ h) hy_goes rfl wl_165 cu_goes dX12_addRepeat_110 (Nat.le_of_ble_eq_true rfl) (kI (fun r3 t3 h => ?_))
            refine gm_if_ne C 118 dX12_addRepeat_113 (by decide) (fun c113_6 => ?_) (fun c113_6 => ?_)
            · have h := h.2 c113_6
              refine gm_aload C 0 dX12_addRepeat_118 rfl ?_
              refine gm_getA C 4 (by decide) rfl wf_19 rfl dX12_addRepeat_119 ?_
              refine gm_iloadn C 1 1 dX12_addRepeat_122 rfl rfl ?_
              refine gm_iloadn C 2 2 dX12_addRepeat_123 rfl rfl ?_
              obtain ⟨g4, h⟩ := h
              refine gm_iast C 4 (by decide) rfl g4 dX12_addRepeat_124 ?_
              refine gm_nameT (fun t5 et5 => ?_)
              have h := h t5 et5
              refine gm_aload C 0 dX12_addRepeat_125 rfl ?_
              refine gm_getA C 5 (by decide) rfl wf_22 rfl dX12_addRepeat_126 ?_
              refine gm_iloadn C 1 1 dX12_addRepeat_129 rfl rfl ?_
              refine gm_iloadn C 3 3 dX12_addRepeat_130 rfl rfl ?_
              obtain ⟨g6, h⟩ := h
              refine gm_iast C 5 (by decide) rfl g6 dX12_addRepeat_131 ?_
              refine gm_nameT (fun t7 et7 => ?_)
              have h := h t7 et7
              refine gm_aload C 0 dX12_addRepeat_132 rfl ?_
              refine gm_callV C (y := yX12_repeats) (as := []) rfl (by decide) (by decide) (c_repeats l D cI cZ mo ad t7 _ h) hy_repeats rfl wl_204 cu_repeats dX12_addRepeat_133 (Nat.le_of_ble_eq_true rfl) (kI (fun r8 t8 h => ?_))
              exact gm_iret C E dX12_addRepeat_136 ⟨_, rfl, h⟩
            · have h := h.1 c113_6
              refine gm_iconst C 0 dX12_addRepeat_116 (by decide) ?_
              exact gm_iret C E dX12_addRepeat_117 ⟨_, rfl, h⟩
          refine gm_icmp_lt C 107 dX12_addRepeat_89 (by decide) (fun c89_4 => ?_) (fun c89_4 => ?_)
          · refine gm_iconst C 0 dX12_addRepeat_107 (by decide) ?_
            refine gm_sub [0, 1, 2, 3, 5] rfl ?_
            exact k108 _ ((if_neg (fun q0 => q0.1 c89_4)).symm)
          · refine gm_iloadn C 3 3 dX12_addRepeat_92 rfl rfl ?_
            refine gm_iconst C 0 dX12_addRepeat_93 (by decide) ?_
            refine gm_iloadn C 2 2 dX12_addRepeat_94 rfl rfl ?_
            refine gm_iloadn C 1 1 dX12_addRepeat_95 rfl rfl ?_
            refine gm_isub C dX12_addRepeat_96 ?_
            refine gm_callS C (y := yX12_in) (as := [.int a3, .int 0, .int (a2 - a1)]) rfl (by decide) (by decide) (c_in l D cI cZ mo ad a3 0 (a2 - a1) t) hy_in rfl wl_135 cu_in dX12_addRepeat_97 (Nat.le_of_ble_eq_true rfl) (kP ?_)
            refine gm_if_eq C 107 dX12_addRepeat_100 (by decide) (fun c100_5 => ?_) (fun c100_5 => ?_)
            · refine gm_iconst C 0 dX12_addRepeat_107 (by decide) ?_
              refine gm_sub [0, 1, 2, 3, 5] rfl ?_
              exact k108 _ ((if_neg (fun q0 => (fun q1 => q1 c100_5) q0.2)).symm)
            · refine gm_iconst C 1 dX12_addRepeat_103 (by decide) ?_
              refine gm_goto C 108 dX12_addRepeat_104 (by decide) ?_
              refine gm_sub [0, 1, 2, 3, 5] rfl ?_
              exact k108 _ ((if_pos ⟨c89_4, c100_5⟩).symm)
        · have h := h.2 c35_3
          refine gm_iload C 5 dX12_addRepeat_38 rfl ?_
          obtain ⟨g10, h⟩ := h
          obtain ⟨g11, h⟩ := h
          have k76 : ∀ x9 : Int32, x9 = (if (¬ (z29.1 = 0)) ∧ (((mgA t 4 z29.2) = (-1)) ∨ (((mgA t 4 z29.2) < a1) ∨ (¬ (z29.2 ≤ a2)))) then 1 else 0) → GM p l e (rmD 2) s m args below meth c 7 D cI cZ mo ad (gm_Q below D cI cZ mo ad (pI Q t) args s) t 76 [(0, .ref mo), (1, .int a1), (2, .int a2), (3, .int a3), (4, .int x1), (6, .int z29.2)] [.int x9] := by
            intro x9 ex9
            have h := h x9 ex9
            refine gm_istore C [(5, .int x9), (0, .ref mo), (1, .int a1), (2, .int a2), (3, .int a3), (4, .int x1), (6, .int z29.2)] dX12_addRepeat_76 (by decide) rfl ?_
            refine gm_iinc C 6 (z29.2 + 1) [(6, .int (z29.2 + 1)), (5, .int x9), (0, .ref mo), (1, .int a1), (2, .int a2), (3, .int a3), (4, .int x1)] dX12_addRepeat_78 rfl rfl (by decide) rfl ?_
            refine gm_goto C 29 dX12_addRepeat_81 (by decide) ?_
            refine gm_sub [2, 3, 4, 5, 6, 1, 0] rfl ?_
            have h9 := ih29 (x9, (z29.2 + 1)) h
            exact h9
          refine gm_if_eq C 75 dX12_addRepeat_40 (by decide) (fun c40_7 => ?_) (fun c40_7 => ?_)
          · refine gm_iconst C 0 dX12_addRepeat_75 (by decide) ?_
            refine gm_sub [0, 1, 2, 3, 4, 6] rfl ?_
            exact k76 _ ((if_neg (fun q0 => q0.1 c40_7)).symm)
          · refine gm_aload C 0 dX12_addRepeat_43 rfl ?_
            refine gm_getA C 4 (by decide) rfl wf_19 rfl dX12_addRepeat_44 ?_
            refine gm_iload C 6 dX12_addRepeat_47 rfl ?_
            refine gm_iald C 4 (by decide) rfl (g10 c40_7) dX12_addRepeat_49 ?_
            refine gm_iconst C (-1) dX12_addRepeat_50 (by decide) ?_
            refine gm_icmp_eq C 71 dX12_addRepeat_51 (by decide) (fun c51_8 => ?_) (fun c51_8 => ?_)
            · refine gm_iconst C 1 dX12_addRepeat_71 (by decide) ?_
              refine gm_goto C 76 dX12_addRepeat_72 (by decide) ?_
              refine gm_sub [0, 1, 2, 3, 4, 6] rfl ?_
              exact k76 _ ((if_pos ⟨c40_7, (Or.inl c51_8)⟩).symm)
            · refine gm_aload C 0 dX12_addRepeat_54 rfl ?_
              refine gm_getA C 4 (by decide) rfl wf_19 rfl dX12_addRepeat_55 ?_
              refine gm_iload C 6 dX12_addRepeat_58 rfl ?_
              refine gm_iald C 4 (by decide) rfl (g11 c40_7 c51_8) dX12_addRepeat_60 ?_
              refine gm_iloadn C 1 1 dX12_addRepeat_61 rfl rfl ?_
              refine gm_icmp_lt C 71 dX12_addRepeat_62 (by decide) (fun c62_9 => ?_) (fun c62_9 => ?_)
              · refine gm_iconst C 1 dX12_addRepeat_71 (by decide) ?_
                refine gm_goto C 76 dX12_addRepeat_72 (by decide) ?_
                refine gm_sub [0, 1, 2, 3, 4, 6] rfl ?_
                exact k76 _ ((if_pos ⟨c40_7, (Or.inr (Or.inl c62_9))⟩).symm)
              · refine gm_iload C 6 dX12_addRepeat_65 rfl ?_
                refine gm_iloadn C 2 2 dX12_addRepeat_67 rfl rfl ?_
                refine gm_icmp_le C 75 dX12_addRepeat_68 (by decide) (fun c68_10 => ?_) (fun c68_10 => ?_)
                · refine gm_iconst C 0 dX12_addRepeat_75 (by decide) ?_
                  refine gm_sub [0, 1, 2, 3, 4, 6] rfl ?_
                  exact k76 _ ((if_neg (fun q0 => (fun q1 => Or.elim q1 c51_8 (fun q2 => Or.elim q2 c62_9 (fun q3 => q3 c68_10))) q0.2)).symm)
                · refine gm_iconst C 1 dX12_addRepeat_71 (by decide) ?_
                  refine gm_goto C 76 dX12_addRepeat_72 (by decide) ?_
                  refine gm_sub [0, 1, 2, 3, 4, 6] rfl ?_
                  exact k76 _ ((if_pos ⟨c40_7, (Or.inr (Or.inr c68_10))⟩).symm)
    exact k29 n29 (1, 0) h
  refine gm_if_eq C 20 dX12_addRepeat_5 (by decide) (fun c5_1 => ?_) (fun c5_1 => ?_)
  · refine gm_iconst C 0 dX12_addRepeat_20 (by decide) ?_
    exact k21 _ ((if_neg (fun q0 => q0.1 c5_1)).symm)
  · refine gm_aload C 0 dX12_addRepeat_8 rfl ?_
    refine gm_iloadn C 2 2 dX12_addRepeat_9 rfl rfl ?_
    refine gm_callV C (y := yX12_isBar) (as := [.int a2]) rfl (by decide) (by decide) (c_isBar l D cI cZ mo ad a2 t) hy_isBar rfl wl_143 cu_isBar dX12_addRepeat_10 (Nat.le_of_ble_eq_true rfl) (kP ?_)
    refine gm_if_eq C 20 dX12_addRepeat_13 (by decide) (fun c13_2 => ?_) (fun c13_2 => ?_)
    · refine gm_iconst C 0 dX12_addRepeat_20 (by decide) ?_
      exact k21 _ ((if_neg (fun q0 => (fun q1 => q1 c13_2) q0.2)).symm)
    · refine gm_iconst C 1 dX12_addRepeat_16 (by decide) ?_
      refine gm_goto C 21 dX12_addRepeat_17 (by decide) ?_
      exact k21 _ ((if_pos ⟨c5_1, c13_2⟩).symm)
def w_dropRepeat (a1 : Int32) (t : MS) (Q : Int32 → MS → Prop) : Prop := ∀ x1 : Int32, x1 = (v_isBar a1 t) → ((¬ (x1 = 0)) → mIn 4 a1) ∧ ∀ x2 : Int32, x2 = (if (¬ (x1 = 0)) ∧ (¬ ((mgA t 4 a1) = (-1))) then 1 else 0) → w_goes x1 x2 1 t (fun r4 t4 => ((r4 = 0) → Q 0 t4) ∧ (¬ (r4 = 0) → (mIn 4 a1) ∧ ∀ x6 : Int32, x6 = (mgA t4 4 a1) → (mIn 4 a1) ∧ ∀ t8 : MS, t8 = msA t4 4 a1 (-1) → Q x6 t8))
set_option maxRecDepth 20000 in
set_option maxHeartbeats 2000000 in
theorem c_dropRepeat (l : Launch) (D : va_G) (cI cZ : ClassId) (mo : Nat) (ad : Nat → Nat) (a1 : Int32) (t : MS) (Q : Int32 → MS → Prop) (h : w_dropRepeat a1 t Q) : MetM l yX12_dropRepeat cX12_dropRepeat 4 (some .int) 2 [.ref mo, .int a1] (pI Q) D cI cZ mo ad t := by
  unfold w_dropRepeat at h
  refine gm_start (by decide) rfl (Nat.le_of_ble_eq_true rfl) (fun p e s m args below meth c C E => ?_)
  refine gm_aload C 0 dX12_dropRepeat_0 rfl ?_
  refine gm_iloadn C 1 1 dX12_dropRepeat_1 rfl rfl ?_
  refine gm_callV C (y := yX12_isBar) (as := [.int a1]) rfl (by decide) (by decide) (c_isBar l D cI cZ mo ad a1 t) hy_isBar rfl wl_143 cu_isBar dX12_dropRepeat_2 (Nat.le_of_ble_eq_true rfl) (kP ?_)
  refine gm_nameI (fun x1 ex1 => ?_)
  have h := h x1 ex1
  refine gm_istoren C 2 [(2, .int x1), (0, .ref mo), (1, .int a1)] dX12_dropRepeat_5 rfl (by decide) rfl ?_
  refine gm_aload C 1 dX12_dropRepeat_6 rfl ?_
  refine gm_iloadn C 0 2 dX12_dropRepeat_7 rfl rfl ?_
  refine gm_iloadn C 0 2 dX12_dropRepeat_8 rfl rfl ?_
  obtain ⟨g3, h⟩ := h
  have k27 : ∀ x2 : Int32, x2 = (if (¬ (x1 = 0)) ∧ (¬ ((mgA t 4 a1) = (-1))) then 1 else 0) → GM p l e (rmD 2) s m args below meth c 4 D cI cZ mo ad (gm_Q below D cI cZ mo ad (pI Q t) args s) t 27 [(0, .ref mo), (1, .int a1)] [.int x2, .int x1, .ref mo] := by
    intro x2 ex2
    have h := h x2 ex2
    refine gm_iconst C 1 dX12_dropRepeat_27 (by decide) ?_
    refine gm_callV C (y := yX12_goes) (as := [.int x1, .int x2, .int 1]) rfl (by decide) (by decide) (c_goes l D cI cZ mo ad x1 x2 1 t _ h) hy_goes rfl wl_165 cu_goes dX12_dropRepeat_28 (Nat.le_of_ble_eq_true rfl) (kI (fun r4 t4 h => ?_))
    refine gm_if_ne C 36 dX12_dropRepeat_31 (by decide) (fun c31_3 => ?_) (fun c31_3 => ?_)
    · have h := h.2 c31_3
      refine gm_aload C 0 dX12_dropRepeat_36 rfl ?_
      refine gm_getA C 4 (by decide) rfl wf_19 rfl dX12_dropRepeat_37 ?_
      refine gm_iloadn C 1 1 dX12_dropRepeat_40 rfl rfl ?_
      obtain ⟨g5, h⟩ := h
      refine gm_iald C 4 (by decide) rfl g5 dX12_dropRepeat_41 ?_
      refine gm_nameI (fun x6 ex6 => ?_)
      have h := h x6 ex6
      refine gm_istoren C 3 [(3, .int x6), (0, .ref mo), (1, .int a1)] dX12_dropRepeat_42 rfl (by decide) rfl ?_
      refine gm_aload C 1 dX12_dropRepeat_43 rfl ?_
      refine gm_getA C 4 (by decide) rfl wf_19 rfl dX12_dropRepeat_44 ?_
      refine gm_iloadn C 2 1 dX12_dropRepeat_47 rfl rfl ?_
      refine gm_iconst C (-1) dX12_dropRepeat_48 (by decide) ?_
      obtain ⟨g7, h⟩ := h
      refine gm_iast C 4 (by decide) rfl g7 dX12_dropRepeat_49 ?_
      refine gm_nameT (fun t8 et8 => ?_)
      have h := h t8 et8
      refine gm_iloadn C 0 3 dX12_dropRepeat_50 rfl rfl ?_
      exact gm_iret C E dX12_dropRepeat_51 ⟨_, rfl, h⟩
    · have h := h.1 c31_3
      refine gm_iconst C 0 dX12_dropRepeat_34 (by decide) ?_
      exact gm_iret C E dX12_dropRepeat_35 ⟨_, rfl, h⟩
  refine gm_if_eq C 26 dX12_dropRepeat_9 (by decide) (fun c9_1 => ?_) (fun c9_1 => ?_)
  · refine gm_iconst C 0 dX12_dropRepeat_26 (by decide) ?_
    refine gm_sub [1, 2] rfl ?_
    exact k27 _ ((if_neg (fun q0 => q0.1 c9_1)).symm)
  · refine gm_aload C 1 dX12_dropRepeat_12 rfl ?_
    refine gm_getA C 4 (by decide) rfl wf_19 rfl dX12_dropRepeat_13 ?_
    refine gm_iloadn C 2 1 dX12_dropRepeat_16 rfl rfl ?_
    refine gm_iald C 4 (by decide) rfl (g3 c9_1) dX12_dropRepeat_17 ?_
    refine gm_iconst C (-1) dX12_dropRepeat_18 (by decide) ?_
    refine gm_icmp_eq C 26 dX12_dropRepeat_19 (by decide) (fun c19_2 => ?_) (fun c19_2 => ?_)
    · refine gm_iconst C 0 dX12_dropRepeat_26 (by decide) ?_
      refine gm_sub [1, 2] rfl ?_
      exact k27 _ ((if_neg (fun q0 => (fun q1 => q1 c19_2) q0.2)).symm)
    · refine gm_iconst C 1 dX12_dropRepeat_22 (by decide) ?_
      refine gm_goto C 27 dX12_dropRepeat_23 (by decide) ?_
      refine gm_sub [1, 2] rfl ?_
      exact k27 _ ((if_pos ⟨c9_1, c19_2⟩).symm)
def w_plays_L2 (a2 : Int32) (Q : MS → Prop) (K2 : (Int32 × MS) → Prop) (z2 : Int32 × MS) : Prop := ((a2 < z2.1) → Q z2.2) ∧ (¬ (a2 < z2.1) → (mIn 25 (mgI z2.2 24)) ∧ ∀ t2 : MS, t2 = msA z2.2 25 (mgI z2.2 24) z2.1 → (mIn 26 (mgI t2 24)) ∧ (d_lengthOf z2.1 t2) ∧ w_lasts z2.1 (v_lengthOf z2.1 t2) t2 (fun r5 t5 => (mIn 26 ((mgI t2 24) + 1)) ∧ ∀ t7 : MS, t7 = msA t5 26 ((mgI t2 24) + 1) ((mgA t2 26 (mgI t2 24)) + r5) → ∀ t8 : MS, t8 = msI t7 24 ((mgI t7 24) + 1) → K2 ((z2.1 + 1), t8)))
def w_plays (a1 a2 : Int32) (t : MS) (Q : MS → Prop) : Prop := ∃ n, lp (w_plays_L2 a2 Q) n (a1, t)
set_option maxRecDepth 20000 in
set_option maxHeartbeats 2000000 in
theorem c_plays (l : Launch) (D : va_G) (cI cZ : ClassId) (mo : Nat) (ad : Nat → Nat) (a1 a2 : Int32) (t : MS) (Q : MS → Prop) (h : w_plays a1 a2 t Q) : MetM l yX12_plays cX12_plays 4 none 2 [.ref mo, .int a1, .int a2] (pV Q) D cI cZ mo ad t := by
  unfold w_plays at h
  refine gm_start (by decide) rfl (Nat.le_of_ble_eq_true rfl) (fun p e s m args below meth c C E => ?_)
  refine gm_iloadn C 1 1 dX12_plays_0 rfl rfl ?_
  refine gm_istoren C 3 [(3, .int a1), (0, .ref mo), (1, .int a1), (2, .int a2)] dX12_plays_1 rfl (by decide) rfl ?_
  refine gm_sub [1, 3, 0] rfl ?_
  obtain ⟨n2, h⟩ := h
  have k2 : ∀ (n2 : Nat) (z2 : Int32 × MS), lp (w_plays_L2 a2 Q) n2 z2 → GM p l e (rmD 2) s m args below meth c 4 D cI cZ mo ad (gm_Q below D cI cZ mo ad (pV Q t) args s) z2.2 2 [(0, .ref mo), (2, .int a2), (3, .int z2.1)] [] := by
    intro n2
    induction n2 with
    | zero => intro z2 h; exact h.elim
    | succ n2 ih2 =>
      intro z2 h
      have h : w_plays_L2 a2 Q (lp (w_plays_L2 a2 Q) n2) z2 := h
      unfold w_plays_L2 at h
      refine gm_iloadn C 2 3 dX12_plays_2 rfl rfl ?_
      refine gm_iloadn C 1 2 dX12_plays_3 rfl rfl ?_
      refine gm_icmp_gt C 64 dX12_plays_4 (by decide) (fun c4_1 => ?_) (fun c4_1 => ?_)
      · have h := h.1 c4_1
        exact gm_vret C E dX12_plays_64 ⟨rfl, h⟩
      · have h := h.2 c4_1
        refine gm_aload C 0 dX12_plays_7 rfl ?_
        refine gm_getA C 25 (by decide) rfl wf_78 rfl dX12_plays_8 ?_
        refine gm_aload C 0 dX12_plays_11 rfl ?_
        refine gm_getI C 24 (by decide) rfl wf_208 rfl dX12_plays_12 ?_
        refine gm_iloadn C 2 3 dX12_plays_15 rfl rfl ?_
        obtain ⟨g1, h⟩ := h
        refine gm_iast C 25 (by decide) rfl g1 dX12_plays_16 ?_
        refine gm_nameT (fun t2 et2 => ?_)
        have h := h t2 et2
        refine gm_aload C 0 dX12_plays_17 rfl ?_
        refine gm_getA C 26 (by decide) rfl wf_81 rfl dX12_plays_18 ?_
        refine gm_aload C 0 dX12_plays_21 rfl ?_
        refine gm_getI C 24 (by decide) rfl wf_208 rfl dX12_plays_22 ?_
        refine gm_iconst C 1 dX12_plays_25 (by decide) ?_
        refine gm_iadd C dX12_plays_26 ?_
        refine gm_aload C 0 dX12_plays_27 rfl ?_
        refine gm_getA C 26 (by decide) rfl wf_81 rfl dX12_plays_28 ?_
        refine gm_aload C 0 dX12_plays_31 rfl ?_
        refine gm_getI C 24 (by decide) rfl wf_208 rfl dX12_plays_32 ?_
        obtain ⟨g3, h⟩ := h
        refine gm_iald C 26 (by decide) rfl g3 dX12_plays_35 ?_
        refine gm_aload C 0 dX12_plays_36 rfl ?_
        refine gm_iloadn C 2 3 dX12_plays_37 rfl rfl ?_
        refine gm_aload C 0 dX12_plays_38 rfl ?_
        refine gm_iloadn C 2 3 dX12_plays_39 rfl rfl ?_
        obtain ⟨g4, h⟩ := h
        refine gm_callV C (y := yX12_lengthOf) (as := [.int z2.1]) rfl (by decide) (by decide) (c_lengthOf l D cI cZ mo ad z2.1 t2 g4) hy_lengthOf rfl wl_172 cu_lengthOf dX12_plays_40 (Nat.le_of_ble_eq_true rfl) (kP ?_)
        refine gm_callV C (y := yX12_lasts) (as := [.int z2.1, .int (v_lengthOf z2.1 t2)]) rfl (by decide) (by decide) (c_lasts l D cI cZ mo ad z2.1 (v_lengthOf z2.1 t2) t2 _ h) hy_lasts rfl wl_178 cu_lasts dX12_plays_43 (Nat.le_of_ble_eq_true rfl) (kI (fun r5 t5 h => ?_))
        refine gm_iadd C dX12_plays_46 ?_
        obtain ⟨g6, h⟩ := h
        refine gm_iast C 26 (by decide) rfl g6 dX12_plays_47 ?_
        refine gm_nameT (fun t7 et7 => ?_)
        have h := h t7 et7
        refine gm_aload C 0 dX12_plays_48 rfl ?_
        refine gm_dup C dX12_plays_49 rfl ?_
        refine gm_getI C 24 (by decide) rfl wf_208 rfl dX12_plays_50 ?_
        refine gm_iconst C 1 dX12_plays_53 (by decide) ?_
        refine gm_iadd C dX12_plays_54 ?_
        refine gm_putI C 24 (by decide) rfl wf_208 rfl rfl (by decide +kernel) dX12_plays_55 ?_
        refine gm_nameT (fun t8 et8 => ?_)
        have h := h t8 et8
        refine gm_iinc C 2 (z2.1 + 1) [(3, .int (z2.1 + 1)), (0, .ref mo), (2, .int a2)] dX12_plays_58 rfl rfl (by decide) rfl ?_
        refine gm_goto C 2 dX12_plays_61 (by decide) ?_
        refine gm_sub [1, 2, 0] rfl ?_
        have h9 := ih2 ((z2.1 + 1), t8) h
        exact h9
  exact k2 n2 (a1, t) h
def w_laysPlaces_L7 (Q : MS → Prop) (K7 : (Int32 × MS) → Prop) (z7 : Int32 × MS) : Prop := (((mgI z7.2 0) ≤ z7.1) → Q z7.2) ∧ (¬ ((mgI z7.2 0) ≤ z7.1) → (mIn 4 z7.1) ∧ ((¬ ((mgA z7.2 4 z7.1) = (-1))) → mIn 4 z7.1) ∧ ∀ x3 : Int32, x3 = (if (mgA z7.2 4 z7.1) = (-1) then z7.1 else (mgA z7.2 4 z7.1)) → w_plays z7.1 x3 z7.2 (fun t5 => (mIn 4 z7.1) ∧ ∃ J65 : MS → Prop, (∀ t7 : MS, J65 t7 → (∀ x8 : Int32, x8 = (x3 + 1) → K7 (x8, t7))) ∧ ((((mgA t5 4 z7.1) = (-1)) → J65 t5) ∧ (¬ ((mgA t5 4 z7.1) = (-1)) → (mIn 5 z7.1) ∧ w_plays z7.1 (x3 - (mgA t5 5 z7.1)) t5 (fun t10 => J65 t10)))))
def w_laysPlaces (t : MS) (Q : MS → Prop) : Prop := ∀ t1 : MS, t1 = msI t 24 0 → ∃ n, lp (w_laysPlaces_L7 Q) n (0, t1)
set_option maxRecDepth 20000 in
set_option maxHeartbeats 2000000 in
theorem c_laysPlaces (l : Launch) (D : va_G) (cI cZ : ClassId) (mo : Nat) (ad : Nat → Nat) (t : MS) (Q : MS → Prop) (h : w_laysPlaces t Q) : MetM l yX12_laysPlaces cX12_laysPlaces 3 none 3 [.ref mo] (pV Q) D cI cZ mo ad t := by
  unfold w_laysPlaces at h
  refine gm_start (by decide) rfl (Nat.le_of_ble_eq_true rfl) (fun p e s m args below meth c C E => ?_)
  refine gm_aload C 0 dX12_laysPlaces_0 rfl ?_
  refine gm_iconst C 0 dX12_laysPlaces_1 (by decide) ?_
  refine gm_putI C 24 (by decide) rfl wf_208 rfl rfl (by decide +kernel) dX12_laysPlaces_2 ?_
  refine gm_nameT (fun t1 et1 => ?_)
  have h := h t1 et1
  refine gm_iconst C 0 dX12_laysPlaces_5 (by decide) ?_
  refine gm_istoren C 1 [(1, .int 0), (0, .ref mo)] dX12_laysPlaces_6 rfl (by decide) rfl ?_
  refine gm_sub [1, 0] rfl ?_
  obtain ⟨n7, h⟩ := h
  have k7 : ∀ (n7 : Nat) (z7 : Int32 × MS), lp (w_laysPlaces_L7 Q) n7 z7 → GM p l e (rmD 3) s m args below meth c 3 D cI cZ mo ad (gm_Q below D cI cZ mo ad (pV Q t) args s) z7.2 7 [(0, .ref mo), (1, .int z7.1)] [] := by
    intro n7
    induction n7 with
    | zero => intro z7 h; exact h.elim
    | succ n7 ih7 =>
      intro z7 h
      have h : w_laysPlaces_L7 Q (lp (w_laysPlaces_L7 Q) n7) z7 := h
      unfold w_laysPlaces_L7 at h
      refine gm_iloadn C 1 1 dX12_laysPlaces_7 rfl rfl ?_
      refine gm_aload C 0 dX12_laysPlaces_8 rfl ?_
      refine gm_getI C 0 (by decide) rfl wf_132 rfl dX12_laysPlaces_9 ?_
      refine gm_icmp_ge C 72 dX12_laysPlaces_12 (by decide) (fun c12_1 => ?_) (fun c12_1 => ?_)
      · have h := h.1 c12_1
        exact gm_vret C E dX12_laysPlaces_72 ⟨rfl, h⟩
      · have h := h.2 c12_1
        refine gm_aload C 0 dX12_laysPlaces_15 rfl ?_
        refine gm_getA C 4 (by decide) rfl wf_19 rfl dX12_laysPlaces_16 ?_
        refine gm_iloadn C 1 1 dX12_laysPlaces_19 rfl rfl ?_
        obtain ⟨g2, h⟩ := h
        refine gm_iald C 4 (by decide) rfl g2 dX12_laysPlaces_20 ?_
        refine gm_iconst C (-1) dX12_laysPlaces_21 (by decide) ?_
        obtain ⟨g4, h⟩ := h
        have k35 : ∀ x3 : Int32, x3 = (if (mgA z7.2 4 z7.1) = (-1) then z7.1 else (mgA z7.2 4 z7.1)) → GM p l e (rmD 3) s m args below meth c 3 D cI cZ mo ad (gm_Q below D cI cZ mo ad (pV Q t) args s) z7.2 35 [(0, .ref mo), (1, .int z7.1)] [.int x3] := by
          intro x3 ex3
          have h := h x3 ex3
          refine gm_istoren C 2 [(2, .int x3), (0, .ref mo), (1, .int z7.1)] dX12_laysPlaces_35 rfl (by decide) rfl ?_
          refine gm_aload C 1 dX12_laysPlaces_36 rfl ?_
          refine gm_iloadn C 2 1 dX12_laysPlaces_37 rfl rfl ?_
          refine gm_iloadn C 0 2 dX12_laysPlaces_38 rfl rfl ?_
          refine gm_callV C (y := yX12_plays) (as := [.int z7.1, .int x3]) rfl (by decide) (by decide) (c_plays l D cI cZ mo ad z7.1 x3 z7.2 _ h) hy_plays rfl wl_211 cu_plays dX12_laysPlaces_39 (Nat.le_of_ble_eq_true rfl) (kV (fun t5 h => ?_))
          refine gm_aload C 1 dX12_laysPlaces_42 rfl ?_
          refine gm_getA C 4 (by decide) rfl wf_19 rfl dX12_laysPlaces_43 ?_
          refine gm_iloadn C 2 1 dX12_laysPlaces_46 rfl rfl ?_
          obtain ⟨g6, h⟩ := h
          refine gm_iald C 4 (by decide) rfl g6 dX12_laysPlaces_47 ?_
          refine gm_iconst C (-1) dX12_laysPlaces_48 (by decide) ?_
          obtain ⟨J65, hJ65, h⟩ := h
          have k65 : ∀ t7 : MS, J65 t7 → GM p l e (rmD 3) s m args below meth c 3 D cI cZ mo ad (gm_Q below D cI cZ mo ad (pV Q t) args s) t7 65 [(0, .ref mo), (2, .int x3)] [] := by
            intro t7 h
            have h := hJ65 t7 h
            refine gm_iloadn C 1 2 dX12_laysPlaces_65 rfl rfl ?_
            refine gm_iconst C 1 dX12_laysPlaces_66 (by decide) ?_
            refine gm_iadd C dX12_laysPlaces_67 ?_
            refine gm_nameI (fun x8 ex8 => ?_)
            have h := h x8 ex8
            refine gm_istoren C 1 [(1, .int x8), (0, .ref mo), (2, .int x3)] dX12_laysPlaces_68 rfl (by decide) rfl ?_
            refine gm_goto C 7 dX12_laysPlaces_69 (by decide) ?_
            refine gm_sub [1, 0] rfl ?_
            have h9 := ih7 (x8, t7) h
            exact h9
          refine gm_icmp_eq C 65 dX12_laysPlaces_49 (by decide) (fun c49_3 => ?_) (fun c49_3 => ?_)
          · have h := h.1 c49_3
            refine gm_sub [1, 0] rfl ?_
            exact k65 t5 h
          · have h := h.2 c49_3
            refine gm_aload C 1 dX12_laysPlaces_52 rfl ?_
            refine gm_iloadn C 2 1 dX12_laysPlaces_53 rfl rfl ?_
            refine gm_iloadn C 0 2 dX12_laysPlaces_54 rfl rfl ?_
            refine gm_aload C 1 dX12_laysPlaces_55 rfl ?_
            refine gm_getA C 5 (by decide) rfl wf_22 rfl dX12_laysPlaces_56 ?_
            refine gm_iloadn C 2 1 dX12_laysPlaces_59 rfl rfl ?_
            obtain ⟨g9, h⟩ := h
            refine gm_iald C 5 (by decide) rfl g9 dX12_laysPlaces_60 ?_
            refine gm_isub C dX12_laysPlaces_61 ?_
            refine gm_callV C (y := yX12_plays) (as := [.int z7.1, .int (x3 - (mgA t5 5 z7.1))]) rfl (by decide) (by decide) (c_plays l D cI cZ mo ad z7.1 (x3 - (mgA t5 5 z7.1)) t5 _ h) hy_plays rfl wl_211 cu_plays dX12_laysPlaces_62 (Nat.le_of_ble_eq_true rfl) (kV (fun t10 h => ?_))
            refine gm_sub [1, 0] rfl ?_
            exact k65 t10 h
        refine gm_icmp_ne C 29 dX12_laysPlaces_22 (by decide) (fun c22_2 => ?_) (fun c22_2 => ?_)
        · refine gm_aload C 0 dX12_laysPlaces_29 rfl ?_
          refine gm_getA C 4 (by decide) rfl wf_19 rfl dX12_laysPlaces_30 ?_
          refine gm_iloadn C 1 1 dX12_laysPlaces_33 rfl rfl ?_
          refine gm_iald C 4 (by decide) rfl (g4 c22_2) dX12_laysPlaces_34 ?_
          exact k35 _ ((if_neg c22_2).symm)
        · refine gm_iloadn C 1 1 dX12_laysPlaces_25 rfl rfl ?_
          refine gm_goto C 35 dX12_laysPlaces_26 (by decide) ?_
          exact k35 _ ((if_pos c22_2).symm)
  exact k7 n7 (0, t1) h
def w_places (t : MS) (Q : Int32 → MS → Prop) : Prop := w_laysPlaces t (fun t1 => w_tells (mgI t1 24) t1 (fun r2 t2 => Q r2 t2))
set_option maxRecDepth 20000 in
set_option maxHeartbeats 2000000 in
theorem c_places (l : Launch) (D : va_G) (cI cZ : ClassId) (mo : Nat) (ad : Nat → Nat) (t : MS) (Q : Int32 → MS → Prop) (h : w_places t Q) : MetM l yX12_places cX12_places 1 (some .int) 4 [.ref mo] (pI Q) D cI cZ mo ad t := by
  unfold w_places at h
  refine gm_start (by decide) rfl (Nat.le_of_ble_eq_true rfl) (fun p e s m args below meth c C E => ?_)
  refine gm_aload C 0 dX12_places_0 rfl ?_
  refine gm_callV C (y := yX12_laysPlaces) (as := []) rfl (by decide) (by decide) (c_laysPlaces l D cI cZ mo ad t _ h) hy_laysPlaces rfl wl_214 cu_laysPlaces dX12_places_1 (Nat.le_of_ble_eq_true rfl) (kV (fun t1 h => ?_))
  refine gm_aload C 0 dX12_places_4 rfl ?_
  refine gm_aload C 0 dX12_places_5 rfl ?_
  refine gm_getI C 24 (by decide) rfl wf_208 rfl dX12_places_6 ?_
  refine gm_callV C (y := yX12_tells) (as := [.int (mgI t1 24)]) rfl (by decide) (by decide) (c_tells l D cI cZ mo ad (mgI t1 24) t1 _ h) hy_tells rfl wl_175 cu_tells dX12_places_9 (Nat.le_of_ble_eq_true rfl) (kI (fun r2 t2 h => ?_))
  exact gm_iret C E dX12_places_12 ⟨_, rfl, h⟩
def w_isPlace (a1 : Int32) (t : MS) (Q : Int32 → MS → Prop) : Prop := w_laysPlaces t (fun t1 => w_goes (v_in a1 0 ((mgI t1 24) - 1)) 1 1 t1 (fun r2 t2 => (gb r2) ∧ Q r2 t2))
set_option maxRecDepth 20000 in
set_option maxHeartbeats 2000000 in
theorem c_isPlace (l : Launch) (D : va_G) (cI cZ : ClassId) (mo : Nat) (ad : Nat → Nat) (a1 : Int32) (t : MS) (Q : Int32 → MS → Prop) (h : w_isPlace a1 t Q) : MetM l yX12_isPlace cX12_isPlace 2 (some .boolean) 4 [.ref mo, .int a1] (pI Q) D cI cZ mo ad t := by
  unfold w_isPlace at h
  refine gm_start (by decide) rfl (Nat.le_of_ble_eq_true rfl) (fun p e s m args below meth c C E => ?_)
  refine gm_aload C 0 dX12_isPlace_0 rfl ?_
  refine gm_callV C (y := yX12_laysPlaces) (as := []) rfl (by decide) (by decide) (c_laysPlaces l D cI cZ mo ad t _ h) hy_laysPlaces rfl wl_214 cu_laysPlaces dX12_isPlace_1 (Nat.le_of_ble_eq_true rfl) (kV (fun t1 h => ?_))
  refine gm_aload C 0 dX12_isPlace_4 rfl ?_
  refine gm_iloadn C 1 1 dX12_isPlace_5 rfl rfl ?_
  refine gm_iconst C 0 dX12_isPlace_6 (by decide) ?_
  refine gm_aload C 0 dX12_isPlace_7 rfl ?_
  refine gm_getI C 24 (by decide) rfl wf_208 rfl dX12_isPlace_8 ?_
  refine gm_iconst C 1 dX12_isPlace_11 (by decide) ?_
  refine gm_isub C dX12_isPlace_12 ?_
  refine gm_callS C (y := yX12_in) (as := [.int a1, .int 0, .int ((mgI t1 24) - 1)]) rfl (by decide) (by decide) (c_in l D cI cZ mo ad a1 0 ((mgI t1 24) - 1) t1) hy_in rfl wl_135 cu_in dX12_isPlace_13 (Nat.le_of_ble_eq_true rfl) (kP ?_)
  refine gm_iconst C 1 dX12_isPlace_16 (by decide) ?_
  refine gm_iconst C 1 dX12_isPlace_17 (by decide) ?_
  refine gm_callV C (y := yX12_goes) (as := [.int (v_in a1 0 ((mgI t1 24) - 1)), .int 1, .int 1]) rfl (by decide) (by decide) (c_goes l D cI cZ mo ad (v_in a1 0 ((mgI t1 24) - 1)) 1 1 t1 _ h) hy_goes rfl wl_165 cu_goes dX12_isPlace_18 (Nat.le_of_ble_eq_true rfl) (kI (fun r2 t2 h => ?_))
  obtain ⟨g3, h⟩ := h
  exact gm_zret C E g3 dX12_isPlace_21 ⟨_, rfl, h⟩
def w_barAt (a1 : Int32) (t : MS) (Q : Int32 → MS → Prop) : Prop := w_isPlace a1 t (fun r1 t1 => ((¬ (r1 = 0)) → mIn 25 a1) ∧ ∀ x2 : Int32, x2 = (if r1 = 0 then 0 else (mgA t1 25 a1)) → Q x2 t1)
set_option maxRecDepth 20000 in
set_option maxHeartbeats 2000000 in
theorem c_barAt (l : Launch) (D : va_G) (cI cZ : ClassId) (mo : Nat) (ad : Nat → Nat) (a1 : Int32) (t : MS) (Q : Int32 → MS → Prop) (h : w_barAt a1 t Q) : MetM l yX12_barAt cX12_barAt 2 (some .int) 5 [.ref mo, .int a1] (pI Q) D cI cZ mo ad t := by
  unfold w_barAt at h
  refine gm_start (by decide) rfl (Nat.le_of_ble_eq_true rfl) (fun p e s m args below meth c C E => ?_)
  refine gm_aload C 0 dX12_barAt_0 rfl ?_
  refine gm_iloadn C 1 1 dX12_barAt_1 rfl rfl ?_
  refine gm_callV C (y := yX12_isPlace) (as := [.int a1]) rfl (by decide) (by decide) (c_isPlace l D cI cZ mo ad a1 t _ h) hy_isPlace rfl wl_217 cu_isPlace dX12_barAt_2 (Nat.le_of_ble_eq_true rfl) (kI (fun r1 t1 h => ?_))
  obtain ⟨g3, h⟩ := h
  have k18 : ∀ x2 : Int32, x2 = (if r1 = 0 then 0 else (mgA t1 25 a1)) → GM p l e (rmD 5) s m args below meth c 2 D cI cZ mo ad (gm_Q below D cI cZ mo ad (pI Q t) args s) t1 18 [] [.int x2] := by
    intro x2 ex2
    have h := h x2 ex2
    exact gm_iret C E dX12_barAt_18 ⟨_, rfl, h⟩
  refine gm_if_eq C 17 dX12_barAt_5 (by decide) (fun c5_1 => ?_) (fun c5_1 => ?_)
  · refine gm_iconst C 0 dX12_barAt_17 (by decide) ?_
    refine gm_sub [] rfl ?_
    exact k18 _ ((if_pos c5_1).symm)
  · refine gm_aload C 0 dX12_barAt_8 rfl ?_
    refine gm_getA C 25 (by decide) rfl wf_78 rfl dX12_barAt_9 ?_
    refine gm_iloadn C 1 1 dX12_barAt_12 rfl rfl ?_
    refine gm_iald C 25 (by decide) rfl (g3 c5_1) dX12_barAt_13 ?_
    refine gm_goto C 18 dX12_barAt_14 (by decide) ?_
    refine gm_sub [] rfl ?_
    exact k18 _ ((if_neg c5_1).symm)
def w_startOf (a1 : Int32) (t : MS) (Q : Int32 → MS → Prop) : Prop := w_isPlace a1 t (fun r1 t1 => ((¬ (r1 = 0)) → mIn 26 a1) ∧ ∀ x2 : Int32, x2 = (if r1 = 0 then 0 else (mgA t1 26 a1)) → Q x2 t1)
set_option maxRecDepth 20000 in
set_option maxHeartbeats 2000000 in
theorem c_startOf (l : Launch) (D : va_G) (cI cZ : ClassId) (mo : Nat) (ad : Nat → Nat) (a1 : Int32) (t : MS) (Q : Int32 → MS → Prop) (h : w_startOf a1 t Q) : MetM l yX12_startOf cX12_startOf 2 (some .int) 5 [.ref mo, .int a1] (pI Q) D cI cZ mo ad t := by
  unfold w_startOf at h
  refine gm_start (by decide) rfl (Nat.le_of_ble_eq_true rfl) (fun p e s m args below meth c C E => ?_)
  refine gm_aload C 0 dX12_startOf_0 rfl ?_
  refine gm_iloadn C 1 1 dX12_startOf_1 rfl rfl ?_
  refine gm_callV C (y := yX12_isPlace) (as := [.int a1]) rfl (by decide) (by decide) (c_isPlace l D cI cZ mo ad a1 t _ h) hy_isPlace rfl wl_217 cu_isPlace dX12_startOf_2 (Nat.le_of_ble_eq_true rfl) (kI (fun r1 t1 h => ?_))
  obtain ⟨g3, h⟩ := h
  have k18 : ∀ x2 : Int32, x2 = (if r1 = 0 then 0 else (mgA t1 26 a1)) → GM p l e (rmD 5) s m args below meth c 2 D cI cZ mo ad (gm_Q below D cI cZ mo ad (pI Q t) args s) t1 18 [] [.int x2] := by
    intro x2 ex2
    have h := h x2 ex2
    exact gm_iret C E dX12_startOf_18 ⟨_, rfl, h⟩
  refine gm_if_eq C 17 dX12_startOf_5 (by decide) (fun c5_1 => ?_) (fun c5_1 => ?_)
  · refine gm_iconst C 0 dX12_startOf_17 (by decide) ?_
    refine gm_sub [] rfl ?_
    exact k18 _ ((if_pos c5_1).symm)
  · refine gm_aload C 0 dX12_startOf_8 rfl ?_
    refine gm_getA C 26 (by decide) rfl wf_81 rfl dX12_startOf_9 ?_
    refine gm_iloadn C 1 1 dX12_startOf_12 rfl rfl ?_
    refine gm_iald C 26 (by decide) rfl (g3 c5_1) dX12_startOf_13 ?_
    refine gm_goto C 18 dX12_startOf_14 (by decide) ?_
    refine gm_sub [] rfl ?_
    exact k18 _ ((if_neg c5_1).symm)
def w_playingTime (t : MS) (Q : Int32 → MS → Prop) : Prop := w_laysPlaces t (fun t1 => (mIn 26 (mgI t1 24)) ∧ w_tells (mgA t1 26 (mgI t1 24)) t1 (fun r3 t3 => Q r3 t3))
set_option maxRecDepth 20000 in
set_option maxHeartbeats 2000000 in
theorem c_playingTime (l : Launch) (D : va_G) (cI cZ : ClassId) (mo : Nat) (ad : Nat → Nat) (t : MS) (Q : Int32 → MS → Prop) (h : w_playingTime t Q) : MetM l yX12_playingTime cX12_playingTime 1 (some .int) 4 [.ref mo] (pI Q) D cI cZ mo ad t := by
  unfold w_playingTime at h
  refine gm_start (by decide) rfl (Nat.le_of_ble_eq_true rfl) (fun p e s m args below meth c C E => ?_)
  refine gm_aload C 0 dX12_playingTime_0 rfl ?_
  refine gm_callV C (y := yX12_laysPlaces) (as := []) rfl (by decide) (by decide) (c_laysPlaces l D cI cZ mo ad t _ h) hy_laysPlaces rfl wl_214 cu_laysPlaces dX12_playingTime_1 (Nat.le_of_ble_eq_true rfl) (kV (fun t1 h => ?_))
  refine gm_aload C 0 dX12_playingTime_4 rfl ?_
  refine gm_aload C 0 dX12_playingTime_5 rfl ?_
  refine gm_getA C 26 (by decide) rfl wf_81 rfl dX12_playingTime_6 ?_
  refine gm_aload C 0 dX12_playingTime_9 rfl ?_
  refine gm_getI C 24 (by decide) rfl wf_208 rfl dX12_playingTime_10 ?_
  obtain ⟨g2, h⟩ := h
  refine gm_iald C 26 (by decide) rfl g2 dX12_playingTime_13 ?_
  refine gm_callV C (y := yX12_tells) (as := [.int (mgA t1 26 (mgI t1 24))]) rfl (by decide) (by decide) (c_tells l D cI cZ mo ad (mgA t1 26 (mgI t1 24)) t1 _ h) hy_tells rfl wl_175 cu_tells dX12_playingTime_14 (Nat.le_of_ble_eq_true rfl) (kI (fun r3 t3 h => ?_))
  exact gm_iret C E dX12_playingTime_17 ⟨_, rfl, h⟩
def w_timeByEvents_L23 (a1 : Int32) (Q : Int32 → MS → Prop) (K23 : (Int32 × Int32 × MS) → Prop) (z23 : Int32 × Int32 × MS) : Prop := (((mgI z23.2.2 24) ≤ z23.2.1) → Q z23.1 z23.2.2) ∧ (¬ ((mgI z23.2.2 24) ≤ z23.2.1) → (mIn 25 z23.2.1) ∧ ∀ x4 : Int32, x4 = (mgA z23.2.2 25 z23.2.1) → (mIn 6 (v_at a1 x4)) ∧ ∃ J73 : Int32 → MS → Prop, (∀ x6 : Int32, ∀ t7 : MS, J73 x6 t7 → (w_lasts x4 x6 t7 (fun r8 t8 => ∀ x9 : Int32, x9 = (z23.1 + r8) → K23 (x9, (z23.2.1 + 1), t8)))) ∧ ((((mgA z23.2.2 6 (v_at a1 x4)) = 0) → (d_lengthOf x4 z23.2.2) ∧ J73 (v_lengthOf x4 z23.2.2) z23.2.2) ∧ (¬ ((mgA z23.2.2 6 (v_at a1 x4)) = 0) → w_allTicks a1 x4 z23.2.2 (fun r11 t11 => J73 r11 t11))))
def w_timeByEvents (a1 : Int32) (t : MS) (Q : Int32 → MS → Prop) : Prop := w_goes (v_isVoice a1) 1 1 t (fun r1 t1 => ((r1 = 0) → Q 0 t1) ∧ (¬ (r1 = 0) → w_laysPlaces t1 (fun t2 => ∃ n, lp (w_timeByEvents_L23 a1 Q) n (0, 0, t2))))
set_option maxRecDepth 20000 in
set_option maxHeartbeats 2000000 in
theorem c_timeByEvents (l : Launch) (D : va_G) (cI cZ : ClassId) (mo : Nat) (ad : Nat → Nat) (a1 : Int32) (t : MS) (Q : Int32 → MS → Prop) (h : w_timeByEvents a1 t Q) : MetM l yX12_timeByEvents cX12_timeByEvents 5 (some .int) 4 [.ref mo, .int a1] (pI Q) D cI cZ mo ad t := by
  unfold w_timeByEvents at h
  refine gm_start (by decide) rfl (Nat.le_of_ble_eq_true rfl) (fun p e s m args below meth c C E => ?_)
  refine gm_aload C 0 dX12_timeByEvents_0 rfl ?_
  refine gm_iloadn C 1 1 dX12_timeByEvents_1 rfl rfl ?_
  refine gm_callS C (y := yX12_isVoice) (as := [.int a1]) rfl (by decide) (by decide) (c_isVoice l D cI cZ mo ad a1 t) hy_isVoice rfl wl_184 cu_isVoice dX12_timeByEvents_2 (Nat.le_of_ble_eq_true rfl) (kP ?_)
  refine gm_iconst C 1 dX12_timeByEvents_5 (by decide) ?_
  refine gm_iconst C 1 dX12_timeByEvents_6 (by decide) ?_
  refine gm_callV C (y := yX12_goes) (as := [.int (v_isVoice a1), .int 1, .int 1]) rfl (by decide) (by decide) (c_goes l D cI cZ mo ad (v_isVoice a1) 1 1 t _ h) hy_goes rfl wl_165 cu_goes dX12_timeByEvents_7 (Nat.le_of_ble_eq_true rfl) (kI (fun r1 t1 h => ?_))
  refine gm_if_ne C 15 dX12_timeByEvents_10 (by decide) (fun c10_1 => ?_) (fun c10_1 => ?_)
  · have h := h.2 c10_1
    refine gm_aload C 0 dX12_timeByEvents_15 rfl ?_
    refine gm_callV C (y := yX12_laysPlaces) (as := []) rfl (by decide) (by decide) (c_laysPlaces l D cI cZ mo ad t1 _ h) hy_laysPlaces rfl wl_214 cu_laysPlaces dX12_timeByEvents_16 (Nat.le_of_ble_eq_true rfl) (kV (fun t2 h => ?_))
    refine gm_iconst C 0 dX12_timeByEvents_19 (by decide) ?_
    refine gm_istoren C 2 [(2, .int 0), (0, .ref mo), (1, .int a1)] dX12_timeByEvents_20 rfl (by decide) rfl ?_
    refine gm_iconst C 0 dX12_timeByEvents_21 (by decide) ?_
    refine gm_istoren C 3 [(3, .int 0), (2, .int 0), (0, .ref mo), (1, .int a1)] dX12_timeByEvents_22 rfl (by decide) rfl ?_
    refine gm_sub [2, 3, 1, 0] rfl ?_
    obtain ⟨n23, h⟩ := h
    have k23 : ∀ (n23 : Nat) (z23 : Int32 × Int32 × MS), lp (w_timeByEvents_L23 a1 Q) n23 z23 → GM p l e (rmD 4) s m args below meth c 5 D cI cZ mo ad (gm_Q below D cI cZ mo ad (pI Q t) args s) z23.2.2 23 [(0, .ref mo), (1, .int a1), (2, .int z23.1), (3, .int z23.2.1)] [] := by
      intro n23
      induction n23 with
      | zero => intro z23 h; exact h.elim
      | succ n23 ih23 =>
        intro z23 h
        have h : w_timeByEvents_L23 a1 Q (lp (w_timeByEvents_L23 a1 Q) n23) z23 := h
        unfold w_timeByEvents_L23 at h
        refine gm_iloadn C 3 3 dX12_timeByEvents_23 rfl rfl ?_
        refine gm_aload C 0 dX12_timeByEvents_24 rfl ?_
        refine gm_getI C 24 (by decide) rfl wf_208 rfl dX12_timeByEvents_25 ?_
        refine gm_icmp_ge C 84 dX12_timeByEvents_28 (by decide) (fun c28_2 => ?_) (fun c28_2 => ?_)
        · have h := h.1 c28_2
          refine gm_iloadn C 2 2 dX12_timeByEvents_84 rfl rfl ?_
          exact gm_iret C E dX12_timeByEvents_85 ⟨_, rfl, h⟩
        · have h := h.2 c28_2
          refine gm_aload C 0 dX12_timeByEvents_31 rfl ?_
          refine gm_getA C 25 (by decide) rfl wf_78 rfl dX12_timeByEvents_32 ?_
          refine gm_iloadn C 3 3 dX12_timeByEvents_35 rfl rfl ?_
          obtain ⟨g3, h⟩ := h
          refine gm_iald C 25 (by decide) rfl g3 dX12_timeByEvents_36 ?_
          refine gm_nameI (fun x4 ex4 => ?_)
          have h := h x4 ex4
          refine gm_istore C [(4, .int x4), (0, .ref mo), (1, .int a1), (2, .int z23.1), (3, .int z23.2.1)] dX12_timeByEvents_37 (by decide) rfl ?_
          refine gm_iloadn C 3 2 dX12_timeByEvents_39 rfl rfl ?_
          refine gm_aload C 1 dX12_timeByEvents_40 rfl ?_
          refine gm_iload C 0 dX12_timeByEvents_41 rfl ?_
          refine gm_aload C 1 dX12_timeByEvents_43 rfl ?_
          refine gm_getA C 6 (by decide) rfl wf_25 rfl dX12_timeByEvents_44 ?_
          refine gm_iloadn C 2 1 dX12_timeByEvents_47 rfl rfl ?_
          refine gm_iload C 0 dX12_timeByEvents_48 rfl ?_
          refine gm_callS C (y := yX12_at) (as := [.int a1, .int x4]) rfl (by decide) (by decide) (c_at l D cI cZ mo ad a1 x4 z23.2.2) hy_at rfl wl_139 cu_at dX12_timeByEvents_50 (Nat.le_of_ble_eq_true rfl) (kP ?_)
          obtain ⟨g5, h⟩ := h
          refine gm_iald C 6 (by decide) rfl g5 dX12_timeByEvents_53 ?_
          obtain ⟨J73, hJ73, h⟩ := h
          have k73 : ∀ x6 : Int32, ∀ t7 : MS, J73 x6 t7 → GM p l e (rmD 4) s m args below meth c 5 D cI cZ mo ad (gm_Q below D cI cZ mo ad (pI Q t) args s) t7 73 [(0, .ref mo), (1, .int a1), (3, .int z23.2.1)] [.int x6, .int x4, .ref mo, .int z23.1] := by
            intro x6 t7 h
            have h := hJ73 x6 t7 h
            refine gm_callV C (y := yX12_lasts) (as := [.int x4, .int x6]) rfl (by decide) (by decide) (c_lasts l D cI cZ mo ad x4 x6 t7 _ h) hy_lasts rfl wl_178 cu_lasts dX12_timeByEvents_73 (Nat.le_of_ble_eq_true rfl) (kI (fun r8 t8 h => ?_))
            refine gm_iadd C dX12_timeByEvents_76 ?_
            refine gm_nameI (fun x9 ex9 => ?_)
            have h := h x9 ex9
            refine gm_istoren C 2 [(2, .int x9), (0, .ref mo), (1, .int a1), (3, .int z23.2.1)] dX12_timeByEvents_77 rfl (by decide) rfl ?_
            refine gm_iinc C 3 (z23.2.1 + 1) [(3, .int (z23.2.1 + 1)), (2, .int x9), (0, .ref mo), (1, .int a1)] dX12_timeByEvents_78 rfl rfl (by decide) rfl ?_
            refine gm_goto C 23 dX12_timeByEvents_81 (by decide) ?_
            refine gm_sub [2, 3, 1, 0] rfl ?_
            have h9 := ih23 (x9, (z23.2.1 + 1), t8) h
            exact h9
          refine gm_if_ne C 66 dX12_timeByEvents_54 (by decide) (fun c54_3 => ?_) (fun c54_3 => ?_)
          · have h := h.2 c54_3
            refine gm_aload C 1 dX12_timeByEvents_66 rfl ?_
            refine gm_iloadn C 2 1 dX12_timeByEvents_67 rfl rfl ?_
            refine gm_iload C 0 dX12_timeByEvents_68 rfl ?_
            refine gm_callV C (y := yX12_allTicks) (as := [.int a1, .int x4]) rfl (by decide) (by decide) (c_allTicks l D cI cZ mo ad a1 x4 z23.2.2 _ h) hy_allTicks rfl wl_169 cu_allTicks dX12_timeByEvents_70 (Nat.le_of_ble_eq_true rfl) (kI (fun r11 t11 h => ?_))
            refine gm_sub [1, 2, 4] rfl ?_
            exact k73 r11 t11 h
          · have h := h.1 c54_3
            refine gm_aload C 1 dX12_timeByEvents_57 rfl ?_
            refine gm_iload C 0 dX12_timeByEvents_58 rfl ?_
            obtain ⟨g10, h⟩ := h
            refine gm_callV C (y := yX12_lengthOf) (as := [.int x4]) rfl (by decide) (by decide) (c_lengthOf l D cI cZ mo ad x4 z23.2.2 g10) hy_lengthOf rfl wl_172 cu_lengthOf dX12_timeByEvents_60 (Nat.le_of_ble_eq_true rfl) (kP ?_)
            refine gm_goto C 73 dX12_timeByEvents_63 (by decide) ?_
            refine gm_sub [1, 2, 4] rfl ?_
            exact k73 (v_lengthOf x4 z23.2.2) z23.2.2 h
    exact k23 n23 (0, 0, t2) h
  · have h := h.1 c10_1
    refine gm_iconst C 0 dX12_timeByEvents_13 (by decide) ?_
    exact gm_iret C E dX12_timeByEvents_14 ⟨_, rfl, h⟩
def v_holds (a1 a2 : Int32) (t : MS) : Int32 := (if (¬ ((mgA t 12 a1) = 0)) ∧ ((¬ ((mgA t 8 a1) ≤ 0)) ∧ ((mgA t 8 a1) = (mgA t 8 a2))) then 1 else 0)
def d_holds (a1 a2 : Int32) (t : MS) : Prop := (mIn 12 a1) ∧ ((¬ ((mgA t 12 a1) = 0)) → (mIn 8 a1)) ∧ ((¬ ((mgA t 12 a1) = 0)) → (¬ ((mgA t 8 a1) ≤ 0)) → (mIn 8 a1)) ∧ ((¬ ((mgA t 12 a1) = 0)) → (¬ ((mgA t 8 a1) ≤ 0)) → (mIn 8 a2))
theorem vb_holds {a1 a2 : Int32} {t : MS} : gb (v_holds a1 a2 t) := by unfold v_holds; split <;> first | exact Or.inr rfl | exact Or.inl rfl
set_option maxRecDepth 20000 in
theorem c_holds (l : Launch) (D : va_G) (cI cZ : ClassId) (mo : Nat) (ad : Nat → Nat) (a1 a2 : Int32) (t : MS) (h : d_holds a1 a2 t) : MetM l yX12_holds cX12_holds 3 (some .boolean) 0 [.ref mo, .int a1, .int a2] (pI (fun r t' => (v_holds a1 a2 t) = r ∧ t = t')) D cI cZ mo ad t := by
  obtain ⟨g1, g2, g3, g4⟩ := h
  refine gm_start (by decide) rfl (Nat.le_of_ble_eq_true rfl) (fun p e s m args below meth c C E => ?_)
  refine gm_aload C 0 dX12_holds_0 rfl ?_
  refine gm_getA C 12 (by decide) rfl wf_44 rfl dX12_holds_1 ?_
  refine gm_iloadn C 1 1 dX12_holds_4 rfl rfl ?_
  refine gm_bald C 12 (by decide) rfl (g1) dX12_holds_5 ?_
  refine gm_if_eq C 37 dX12_holds_6 (by decide) (fun c6_1 => ?_) (fun c6_1 => ?_)
  · refine gm_iconst C 0 dX12_holds_37 (by decide) ?_
    exact gm_zret C E (Or.inl rfl) dX12_holds_38 ⟨_, rfl, (Eq.symm ((if_neg (fun q0 => q0.1 c6_1)).symm)), rfl⟩
  · refine gm_aload C 0 dX12_holds_9 rfl ?_
    refine gm_getA C 8 (by decide) rfl wf_32 rfl dX12_holds_10 ?_
    refine gm_iloadn C 1 1 dX12_holds_13 rfl rfl ?_
    refine gm_iald C 8 (by decide) rfl (g2 c6_1) dX12_holds_14 ?_
    refine gm_if_le C 37 dX12_holds_15 (by decide) (fun c15_2 => ?_) (fun c15_2 => ?_)
    · refine gm_iconst C 0 dX12_holds_37 (by decide) ?_
      exact gm_zret C E (Or.inl rfl) dX12_holds_38 ⟨_, rfl, (Eq.symm ((if_neg (fun q0 => (fun q1 => q1.1 c15_2) q0.2)).symm)), rfl⟩
    · refine gm_aload C 0 dX12_holds_18 rfl ?_
      refine gm_getA C 8 (by decide) rfl wf_32 rfl dX12_holds_19 ?_
      refine gm_iloadn C 1 1 dX12_holds_22 rfl rfl ?_
      refine gm_iald C 8 (by decide) rfl (g3 c6_1 c15_2) dX12_holds_23 ?_
      refine gm_aload C 0 dX12_holds_24 rfl ?_
      refine gm_getA C 8 (by decide) rfl wf_32 rfl dX12_holds_25 ?_
      refine gm_iloadn C 2 2 dX12_holds_28 rfl rfl ?_
      refine gm_iald C 8 (by decide) rfl (g4 c6_1 c15_2) dX12_holds_29 ?_
      refine gm_icmp_ne C 37 dX12_holds_30 (by decide) (fun c30_3 => ?_) (fun c30_3 => ?_)
      · refine gm_iconst C 0 dX12_holds_37 (by decide) ?_
        exact gm_zret C E (Or.inl rfl) dX12_holds_38 ⟨_, rfl, (Eq.symm ((if_neg (fun q0 => (fun q1 => c30_3 q1.2) q0.2)).symm)), rfl⟩
      · refine gm_iconst C 1 dX12_holds_33 (by decide) ?_
        refine gm_goto C 38 dX12_holds_34 (by decide) ?_
        exact gm_zret C E (Or.inr rfl) dX12_holds_38 ⟨_, rfl, (Eq.symm ((if_pos ⟨c6_1, ⟨c15_2, c30_3⟩⟩).symm)), rfl⟩
def v_goesOn (a1 a2 a3 : Int32) (t : MS) : Int32 := (if a3 ≤ 0 then (if a2 ≤ 0 then 0 else (if (mgA t 25 (a2 - 1)) = ((mgA t 25 a2) - 1) then (if (mgA t 6 (v_at a1 (mgA t 25 (a2 - 1)))) ≤ 0 then 0 else (if (v_holds (v_place a1 ((mgA t 25 a2) - 1) ((mgA t 6 (v_at a1 ((mgA t 25 a2) - 1))) - 1)) (v_place a1 (mgA t 25 a2) 0) t) = 0 then 0 else 1)) else 0)) else (v_holds (v_place a1 (mgA t 25 a2) (a3 - 1)) (v_place a1 (mgA t 25 a2) a3) t))
def d_goesOn (a1 a2 a3 : Int32) (t : MS) : Prop := (mIn 25 a2) ∧ ((a3 ≤ 0) → (¬ (a2 ≤ 0)) → (mIn 25 (a2 - 1))) ∧ ((a3 ≤ 0) → (¬ (a2 ≤ 0)) → ((mgA t 25 (a2 - 1)) = ((mgA t 25 a2) - 1)) → (mIn 25 (a2 - 1))) ∧ ((a3 ≤ 0) → (¬ (a2 ≤ 0)) → ((mgA t 25 (a2 - 1)) = ((mgA t 25 a2) - 1)) → (mIn 6 (v_at a1 (mgA t 25 (a2 - 1))))) ∧ ((a3 ≤ 0) → (¬ (a2 ≤ 0)) → ((mgA t 25 (a2 - 1)) = ((mgA t 25 a2) - 1)) → (¬ ((mgA t 6 (v_at a1 (mgA t 25 (a2 - 1)))) ≤ 0)) → (mIn 6 (v_at a1 ((mgA t 25 a2) - 1)))) ∧ ((a3 ≤ 0) → (¬ (a2 ≤ 0)) → ((mgA t 25 (a2 - 1)) = ((mgA t 25 a2) - 1)) → (¬ ((mgA t 6 (v_at a1 (mgA t 25 (a2 - 1)))) ≤ 0)) → (d_holds (v_place a1 ((mgA t 25 a2) - 1) ((mgA t 6 (v_at a1 ((mgA t 25 a2) - 1))) - 1)) (v_place a1 (mgA t 25 a2) 0) t)) ∧ ((¬ (a3 ≤ 0)) → (d_holds (v_place a1 (mgA t 25 a2) (a3 - 1)) (v_place a1 (mgA t 25 a2) a3) t))
set_option maxRecDepth 20000 in
theorem c_goesOn (l : Launch) (D : va_G) (cI cZ : ClassId) (mo : Nat) (ad : Nat → Nat) (a1 a2 a3 : Int32) (t : MS) (h : d_goesOn a1 a2 a3 t) : MetM l yX12_goesOn cX12_goesOn 6 (some .boolean) 2 [.ref mo, .int a1, .int a2, .int a3] (pI (fun r t' => (v_goesOn a1 a2 a3 t) = r ∧ t = t')) D cI cZ mo ad t := by
  obtain ⟨g1, g2, g3, g4, g5, g6, g7⟩ := h
  refine gm_start (by decide) rfl (Nat.le_of_ble_eq_true rfl) (fun p e s m args below meth c C E => ?_)
  refine gm_aload C 0 dX12_goesOn_0 rfl ?_
  refine gm_getA C 25 (by decide) rfl wf_78 rfl dX12_goesOn_1 ?_
  refine gm_iloadn C 2 2 dX12_goesOn_4 rfl rfl ?_
  refine gm_iald C 25 (by decide) rfl (g1) dX12_goesOn_5 ?_
  refine gm_istore C [(4, .int (mgA t 25 a2)), (0, .ref mo), (1, .int a1), (2, .int a2), (3, .int a3)] dX12_goesOn_6 (by decide) rfl ?_
  refine gm_iloadn C 4 3 dX12_goesOn_8 rfl rfl ?_
  refine gm_if_le C 33 dX12_goesOn_9 (by decide) (fun c9_1 => ?_) (fun c9_1 => ?_)
  · refine gm_iloadn C 3 2 dX12_goesOn_33 rfl rfl ?_
    refine gm_if_le C 76 dX12_goesOn_34 (by decide) (fun c34_2 => ?_) (fun c34_2 => ?_)
    · refine gm_iconst C 0 dX12_goesOn_76 (by decide) ?_
      refine gm_istore C [(5, .int 0), (4, .int (mgA t 25 a2)), (0, .ref mo), (1, .int a1), (2, .int a2), (3, .int a3)] dX12_goesOn_77 (by decide) rfl ?_
      refine gm_iload C 0 dX12_goesOn_79 rfl ?_
      refine gm_if_eq C 125 dX12_goesOn_81 (by decide) (fun c81_3 => ?_) (fun c81_3 => ?_)
      · refine gm_iconst C 0 dX12_goesOn_125 (by decide) ?_
        exact gm_zret C E (Or.inl rfl) dX12_goesOn_126 ⟨_, rfl, (Eq.symm (((Eq.trans (if_pos c9_1) (if_pos c34_2))).symm)), rfl⟩
      · exact absurd c81_3 (by decide)
    · refine gm_aload C 1 dX12_goesOn_37 rfl ?_
      refine gm_getA C 25 (by decide) rfl wf_78 rfl dX12_goesOn_38 ?_
      refine gm_iloadn C 3 2 dX12_goesOn_41 rfl rfl ?_
      refine gm_iconst C 1 dX12_goesOn_42 (by decide) ?_
      refine gm_isub C dX12_goesOn_43 ?_
      refine gm_iald C 25 (by decide) rfl (g2 c9_1 c34_2) dX12_goesOn_44 ?_
      refine gm_iload C 0 dX12_goesOn_45 rfl ?_
      refine gm_iconst C 1 dX12_goesOn_47 (by decide) ?_
      refine gm_isub C dX12_goesOn_48 ?_
      refine gm_icmp_ne C 76 dX12_goesOn_49 (by decide) (fun c49_4 => ?_) (fun c49_4 => ?_)
      · refine gm_iconst C 0 dX12_goesOn_76 (by decide) ?_
        refine gm_istore C [(5, .int 0), (4, .int (mgA t 25 a2)), (0, .ref mo), (1, .int a1), (2, .int a2), (3, .int a3)] dX12_goesOn_77 (by decide) rfl ?_
        refine gm_iload C 0 dX12_goesOn_79 rfl ?_
        refine gm_if_eq C 125 dX12_goesOn_81 (by decide) (fun c81_9 => ?_) (fun c81_9 => ?_)
        · refine gm_iconst C 0 dX12_goesOn_125 (by decide) ?_
          exact gm_zret C E (Or.inl rfl) dX12_goesOn_126 ⟨_, rfl, (Eq.symm (((Eq.trans (if_pos c9_1) (Eq.trans (if_neg c34_2) (if_neg c49_4)))).symm)), rfl⟩
        · exact absurd c81_9 (by decide)
      · refine gm_aload C 1 dX12_goesOn_52 rfl ?_
        refine gm_getA C 6 (by decide) rfl wf_25 rfl dX12_goesOn_53 ?_
        refine gm_iloadn C 2 1 dX12_goesOn_56 rfl rfl ?_
        refine gm_aload C 1 dX12_goesOn_57 rfl ?_
        refine gm_getA C 25 (by decide) rfl wf_78 rfl dX12_goesOn_58 ?_
        refine gm_iloadn C 3 2 dX12_goesOn_61 rfl rfl ?_
        refine gm_iconst C 1 dX12_goesOn_62 (by decide) ?_
        refine gm_isub C dX12_goesOn_63 ?_
        refine gm_iald C 25 (by decide) rfl (g3 c9_1 c34_2 c49_4) dX12_goesOn_64 ?_
        refine gm_callS C (y := yX12_at) (as := [.int a1, .int (mgA t 25 (a2 - 1))]) rfl (by decide) (by decide) (c_at l D cI cZ mo ad a1 (mgA t 25 (a2 - 1)) t) hy_at rfl wl_139 cu_at dX12_goesOn_65 (Nat.le_of_ble_eq_true rfl) (kP ?_)
        refine gm_iald C 6 (by decide) rfl (g4 c9_1 c34_2 c49_4) dX12_goesOn_68 ?_
        refine gm_if_le C 76 dX12_goesOn_69 (by decide) (fun c69_5 => ?_) (fun c69_5 => ?_)
        · refine gm_iconst C 0 dX12_goesOn_76 (by decide) ?_
          refine gm_istore C [(5, .int 0), (4, .int (mgA t 25 a2)), (0, .ref mo), (1, .int a1), (2, .int a2), (3, .int a3)] dX12_goesOn_77 (by decide) rfl ?_
          refine gm_iload C 0 dX12_goesOn_79 rfl ?_
          refine gm_if_eq C 125 dX12_goesOn_81 (by decide) (fun c81_6 => ?_) (fun c81_6 => ?_)
          · refine gm_iconst C 0 dX12_goesOn_125 (by decide) ?_
            exact gm_zret C E (Or.inl rfl) dX12_goesOn_126 ⟨_, rfl, (Eq.symm (((Eq.trans (if_pos c9_1) (Eq.trans (if_neg c34_2) (Eq.trans (if_pos c49_4) (if_pos c69_5))))).symm)), rfl⟩
          · exact absurd c81_6 (by decide)
        · refine gm_iconst C 1 dX12_goesOn_72 (by decide) ?_
          refine gm_goto C 77 dX12_goesOn_73 (by decide) ?_
          refine gm_istore C [(5, .int 1), (4, .int (mgA t 25 a2)), (0, .ref mo), (1, .int a1), (2, .int a2), (3, .int a3)] dX12_goesOn_77 (by decide) rfl ?_
          refine gm_iload C 0 dX12_goesOn_79 rfl ?_
          refine gm_if_eq C 125 dX12_goesOn_81 (by decide) (fun c81_7 => ?_) (fun c81_7 => ?_)
          · exact absurd c81_7 (by decide)
          · refine gm_aload C 2 dX12_goesOn_84 rfl ?_
            refine gm_iloadn C 3 1 dX12_goesOn_85 rfl rfl ?_
            refine gm_iload C 1 dX12_goesOn_86 rfl ?_
            refine gm_iconst C 1 dX12_goesOn_88 (by decide) ?_
            refine gm_isub C dX12_goesOn_89 ?_
            refine gm_aload C 2 dX12_goesOn_90 rfl ?_
            refine gm_getA C 6 (by decide) rfl wf_25 rfl dX12_goesOn_91 ?_
            refine gm_iloadn C 3 1 dX12_goesOn_94 rfl rfl ?_
            refine gm_iload C 1 dX12_goesOn_95 rfl ?_
            refine gm_iconst C 1 dX12_goesOn_97 (by decide) ?_
            refine gm_isub C dX12_goesOn_98 ?_
            refine gm_callS C (y := yX12_at) (as := [.int a1, .int ((mgA t 25 a2) - 1)]) rfl (by decide) (by decide) (c_at l D cI cZ mo ad a1 ((mgA t 25 a2) - 1) t) hy_at rfl wl_139 cu_at dX12_goesOn_99 (Nat.le_of_ble_eq_true rfl) (kP ?_)
            refine gm_iald C 6 (by decide) rfl (g5 c9_1 c34_2 c49_4 c69_5) dX12_goesOn_102 ?_
            refine gm_iconst C 1 dX12_goesOn_103 (by decide) ?_
            refine gm_isub C dX12_goesOn_104 ?_
            refine gm_callS C (y := yX12_place) (as := [.int a1, .int ((mgA t 25 a2) - 1), .int ((mgA t 6 (v_at a1 ((mgA t 25 a2) - 1))) - 1)]) rfl (by decide) (by decide) (c_place l D cI cZ mo ad a1 ((mgA t 25 a2) - 1) ((mgA t 6 (v_at a1 ((mgA t 25 a2) - 1))) - 1) t) hy_place rfl wl_151 cu_place dX12_goesOn_105 (Nat.le_of_ble_eq_true rfl) (kP ?_)
            refine gm_iloadn C 3 1 dX12_goesOn_108 rfl rfl ?_
            refine gm_iload C 1 dX12_goesOn_109 rfl ?_
            refine gm_iconst C 0 dX12_goesOn_111 (by decide) ?_
            refine gm_callS C (y := yX12_place) (as := [.int a1, .int (mgA t 25 a2), .int 0]) rfl (by decide) (by decide) (c_place l D cI cZ mo ad a1 (mgA t 25 a2) 0 t) hy_place rfl wl_151 cu_place dX12_goesOn_112 (Nat.le_of_ble_eq_true rfl) (kP ?_)
            refine gm_callV C (y := yX12_holds) (as := [.int (v_place a1 ((mgA t 25 a2) - 1) ((mgA t 6 (v_at a1 ((mgA t 25 a2) - 1))) - 1)), .int (v_place a1 (mgA t 25 a2) 0)]) rfl (by decide) (by decide) (c_holds l D cI cZ mo ad (v_place a1 ((mgA t 25 a2) - 1) ((mgA t 6 (v_at a1 ((mgA t 25 a2) - 1))) - 1)) (v_place a1 (mgA t 25 a2) 0) t (g6 c9_1 c34_2 c49_4 c69_5)) hy_holds rfl wl_220 cu_holds dX12_goesOn_115 (Nat.le_of_ble_eq_true rfl) (kP ?_)
            refine gm_if_eq C 125 dX12_goesOn_118 (by decide) (fun c118_8 => ?_) (fun c118_8 => ?_)
            · refine gm_iconst C 0 dX12_goesOn_125 (by decide) ?_
              exact gm_zret C E (Or.inl rfl) dX12_goesOn_126 ⟨_, rfl, (Eq.symm (((Eq.trans (if_pos c9_1) (Eq.trans (if_neg c34_2) (Eq.trans (if_pos c49_4) (Eq.trans (if_neg c69_5) (if_pos c118_8)))))).symm)), rfl⟩
            · refine gm_iconst C 1 dX12_goesOn_121 (by decide) ?_
              refine gm_goto C 126 dX12_goesOn_122 (by decide) ?_
              exact gm_zret C E (Or.inr rfl) dX12_goesOn_126 ⟨_, rfl, (Eq.symm (((Eq.trans (if_pos c9_1) (Eq.trans (if_neg c34_2) (Eq.trans (if_pos c49_4) (Eq.trans (if_neg c69_5) (if_neg c118_8)))))).symm)), rfl⟩
  · refine gm_aload C 1 dX12_goesOn_12 rfl ?_
    refine gm_iloadn C 2 1 dX12_goesOn_13 rfl rfl ?_
    refine gm_iload C 0 dX12_goesOn_14 rfl ?_
    refine gm_iloadn C 4 3 dX12_goesOn_16 rfl rfl ?_
    refine gm_iconst C 1 dX12_goesOn_17 (by decide) ?_
    refine gm_isub C dX12_goesOn_18 ?_
    refine gm_callS C (y := yX12_place) (as := [.int a1, .int (mgA t 25 a2), .int (a3 - 1)]) rfl (by decide) (by decide) (c_place l D cI cZ mo ad a1 (mgA t 25 a2) (a3 - 1) t) hy_place rfl wl_151 cu_place dX12_goesOn_19 (Nat.le_of_ble_eq_true rfl) (kP ?_)
    refine gm_iloadn C 2 1 dX12_goesOn_22 rfl rfl ?_
    refine gm_iload C 0 dX12_goesOn_23 rfl ?_
    refine gm_iloadn C 4 3 dX12_goesOn_25 rfl rfl ?_
    refine gm_callS C (y := yX12_place) (as := [.int a1, .int (mgA t 25 a2), .int a3]) rfl (by decide) (by decide) (c_place l D cI cZ mo ad a1 (mgA t 25 a2) a3 t) hy_place rfl wl_151 cu_place dX12_goesOn_26 (Nat.le_of_ble_eq_true rfl) (kP ?_)
    refine gm_callV C (y := yX12_holds) (as := [.int (v_place a1 (mgA t 25 a2) (a3 - 1)), .int (v_place a1 (mgA t 25 a2) a3)]) rfl (by decide) (by decide) (c_holds l D cI cZ mo ad (v_place a1 (mgA t 25 a2) (a3 - 1)) (v_place a1 (mgA t 25 a2) a3) t (g7 c9_1)) hy_holds rfl wl_220 cu_holds dX12_goesOn_29 (Nat.le_of_ble_eq_true rfl) (kP ?_)
    exact gm_zret C E (vb_holds ..) dX12_goesOn_32 ⟨_, rfl, (Eq.symm (((if_neg c9_1)).symm)), rfl⟩
def w_over (a1 a2 a3 : Int32) (t : MS) (Q : Int32 → MS → Prop) : Prop := (mIn 26 a2) ∧ (mIn 25 a2) ∧ (mIn 25 a2) ∧ w_ticks a1 (mgA t 25 a2) (a3 + 1) t (fun r4 t4 => w_lasts (mgA t 25 a2) r4 t4 (fun r5 t5 => Q ((mgA t 26 a2) + r5) t5))
set_option maxRecDepth 20000 in
set_option maxHeartbeats 2000000 in
theorem c_over (l : Launch) (D : va_G) (cI cZ : ClassId) (mo : Nat) (ad : Nat → Nat) (a1 a2 a3 : Int32) (t : MS) (Q : Int32 → MS → Prop) (h : w_over a1 a2 a3 t Q) : MetM l yX12_over cX12_over 4 (some .int) 3 [.ref mo, .int a1, .int a2, .int a3] (pI Q) D cI cZ mo ad t := by
  unfold w_over at h
  refine gm_start (by decide) rfl (Nat.le_of_ble_eq_true rfl) (fun p e s m args below meth c C E => ?_)
  refine gm_aload C 0 dX12_over_0 rfl ?_
  refine gm_getA C 26 (by decide) rfl wf_81 rfl dX12_over_1 ?_
  refine gm_iloadn C 2 2 dX12_over_4 rfl rfl ?_
  obtain ⟨g1, h⟩ := h
  refine gm_iald C 26 (by decide) rfl g1 dX12_over_5 ?_
  refine gm_aload C 0 dX12_over_6 rfl ?_
  refine gm_aload C 0 dX12_over_7 rfl ?_
  refine gm_getA C 25 (by decide) rfl wf_78 rfl dX12_over_8 ?_
  refine gm_iloadn C 2 2 dX12_over_11 rfl rfl ?_
  obtain ⟨g2, h⟩ := h
  refine gm_iald C 25 (by decide) rfl g2 dX12_over_12 ?_
  refine gm_aload C 0 dX12_over_13 rfl ?_
  refine gm_iloadn C 1 1 dX12_over_14 rfl rfl ?_
  refine gm_aload C 0 dX12_over_15 rfl ?_
  refine gm_getA C 25 (by decide) rfl wf_78 rfl dX12_over_16 ?_
  refine gm_iloadn C 2 2 dX12_over_19 rfl rfl ?_
  obtain ⟨g3, h⟩ := h
  refine gm_iald C 25 (by decide) rfl g3 dX12_over_20 ?_
  refine gm_iloadn C 3 3 dX12_over_21 rfl rfl ?_
  refine gm_iconst C 1 dX12_over_22 (by decide) ?_
  refine gm_iadd C dX12_over_23 ?_
  refine gm_callV C (y := yX12_ticks) (as := [.int a1, .int (mgA t 25 a2), .int (a3 + 1)]) rfl (by decide) (by decide) (c_ticks l D cI cZ mo ad a1 (mgA t 25 a2) (a3 + 1) t _ h) hy_ticks rfl wl_158 cu_ticks dX12_over_24 (Nat.le_of_ble_eq_true rfl) (kI (fun r4 t4 h => ?_))
  refine gm_callV C (y := yX12_lasts) (as := [.int (mgA t 25 a2), .int r4]) rfl (by decide) (by decide) (c_lasts l D cI cZ mo ad (mgA t 25 a2) r4 t4 _ h) hy_lasts rfl wl_178 cu_lasts dX12_over_27 (Nat.le_of_ble_eq_true rfl) (kI (fun r5 t5 h => ?_))
  refine gm_iadd C dX12_over_30 ?_
  exact gm_iret C E dX12_over_31 ⟨_, rfl, h⟩
def w_laysSounds_L27 (a1 : Int32) (K9 : (Int32 × MS) → Prop) (z9 : Int32 × MS) (x4 : Int32) (K27 : (Int32 × MS) → Prop) (z27 : Int32 × MS) : Prop := (mIn 6 (v_at a1 x4)) ∧ (((mgA z27.2 6 (v_at a1 x4)) ≤ z27.1) → K9 ((z9.1 + 1), z27.2)) ∧ (¬ ((mgA z27.2 6 (v_at a1 x4)) ≤ z27.1) → (mIn 27 a1) ∧ ∀ x7 : Int32, x7 = ((768 * a1) + (mgA z27.2 27 a1)) → (mIn 8 (v_place a1 x4 z27.1)) ∧ ∃ J183 : MS → Prop, (∀ t9 : MS, J183 t9 → (K27 ((z27.1 + 1), t9))) ∧ ∃ J102 : Prop, (J102 → ((mIn 8 (v_place a1 x4 z27.1)) ∧ (((mgA z27.2 8 (v_place a1 x4 z27.1)) ≤ 0) → J183 z27.2) ∧ (¬ ((mgA z27.2 8 (v_place a1 x4 z27.1)) ≤ 0) → (mIn 26 z9.1) ∧ w_ticks a1 x4 z27.1 z27.2 (fun r12 t12 => w_lasts x4 r12 t12 (fun r13 t13 => (mIn 28 x7) ∧ ∀ t15 : MS, t15 = msA t13 28 x7 ((mgA z27.2 26 z9.1) + r13) → w_over a1 z9.1 z27.1 t15 (fun r16 t16 => (mIn 29 x7) ∧ ∀ t18 : MS, t18 = msA t16 29 x7 r16 → (mIn 30 x7) ∧ ∀ t20 : MS, t20 = msA t18 30 x7 ((16 * x4) + z27.1) → (mIn 27 a1) ∧ (mIn 27 a1) ∧ ∀ t23 : MS, t23 = msA t20 27 a1 ((mgA t20 27 a1) + 1) → J183 t23)))))) ∧ ((((mgA z27.2 8 (v_place a1 x4 z27.1)) ≤ 0) → J102) ∧ (¬ ((mgA z27.2 8 (v_place a1 x4 z27.1)) ≤ 0) → (d_goesOn a1 z9.1 z27.1 z27.2) ∧ (((v_goesOn a1 z9.1 z27.1 z27.2) = 0) → J102) ∧ (¬ ((v_goesOn a1 z9.1 z27.1 z27.2) = 0) → w_over a1 z9.1 z27.1 z27.2 (fun r25 t25 => (mIn 29 (x7 - 1)) ∧ ∀ t27 : MS, t27 = msA t25 29 (x7 - 1) r25 → J183 t27)))))
def w_laysSounds_L9 (a1 : Int32) (Q : MS → Prop) (K9 : (Int32 × MS) → Prop) (z9 : Int32 × MS) : Prop := (((mgI z9.2 24) ≤ z9.1) → Q z9.2) ∧ (¬ ((mgI z9.2 24) ≤ z9.1) → (mIn 25 z9.1) ∧ ∀ x4 : Int32, x4 = (mgA z9.2 25 z9.1) → ∃ n, lp (w_laysSounds_L27 a1 K9 z9 x4) n (0, z9.2))
def w_laysSounds (a1 : Int32) (t : MS) (Q : MS → Prop) : Prop := (mIn 27 a1) ∧ ∀ t2 : MS, t2 = msA t 27 a1 0 → ∃ n, lp (w_laysSounds_L9 a1 Q) n (0, t2)
set_option maxRecDepth 20000 in
set_option maxHeartbeats 2000000 in
theorem c_laysSounds (l : Launch) (D : va_G) (cI cZ : ClassId) (mo : Nat) (ad : Nat → Nat) (a1 : Int32) (t : MS) (Q : MS → Prop) (h : w_laysSounds a1 t Q) : MetM l yX12_laysSounds cX12_laysSounds 6 none 4 [.ref mo, .int a1] (pV Q) D cI cZ mo ad t := by
  unfold w_laysSounds at h
  refine gm_start (by decide) rfl (Nat.le_of_ble_eq_true rfl) (fun p e s m args below meth c C E => ?_)
  refine gm_aload C 0 dX12_laysSounds_0 rfl ?_
  refine gm_getA C 27 (by decide) rfl wf_84 rfl dX12_laysSounds_1 ?_
  refine gm_iloadn C 1 1 dX12_laysSounds_4 rfl rfl ?_
  refine gm_iconst C 0 dX12_laysSounds_5 (by decide) ?_
  obtain ⟨g1, h⟩ := h
  refine gm_iast C 27 (by decide) rfl g1 dX12_laysSounds_6 ?_
  refine gm_nameT (fun t2 et2 => ?_)
  have h := h t2 et2
  refine gm_iconst C 0 dX12_laysSounds_7 (by decide) ?_
  refine gm_istoren C 2 [(2, .int 0), (0, .ref mo), (1, .int a1)] dX12_laysSounds_8 rfl (by decide) rfl ?_
  refine gm_sub [1, 2, 0] rfl ?_
  obtain ⟨n9, h⟩ := h
  have k9 : ∀ (n9 : Nat) (z9 : Int32 × MS), lp (w_laysSounds_L9 a1 Q) n9 z9 → GM p l e (rmD 4) s m args below meth c 6 D cI cZ mo ad (gm_Q below D cI cZ mo ad (pV Q t) args s) z9.2 9 [(0, .ref mo), (1, .int a1), (2, .int z9.1)] [] := by
    intro n9
    induction n9 with
    | zero => intro z9 h; exact h.elim
    | succ n9 ih9 =>
      intro z9 h
      have h : w_laysSounds_L9 a1 Q (lp (w_laysSounds_L9 a1 Q) n9) z9 := h
      unfold w_laysSounds_L9 at h
      refine gm_iloadn C 2 2 dX12_laysSounds_9 rfl rfl ?_
      refine gm_aload C 0 dX12_laysSounds_10 rfl ?_
      refine gm_getI C 24 (by decide) rfl wf_208 rfl dX12_laysSounds_11 ?_
      refine gm_icmp_ge C 195 dX12_laysSounds_14 (by decide) (fun c14_1 => ?_) (fun c14_1 => ?_)
      · have h := h.1 c14_1
        exact gm_vret C E dX12_laysSounds_195 ⟨rfl, h⟩
      · have h := h.2 c14_1
        refine gm_aload C 0 dX12_laysSounds_17 rfl ?_
        refine gm_getA C 25 (by decide) rfl wf_78 rfl dX12_laysSounds_18 ?_
        refine gm_iloadn C 2 2 dX12_laysSounds_21 rfl rfl ?_
        obtain ⟨g3, h⟩ := h
        refine gm_iald C 25 (by decide) rfl g3 dX12_laysSounds_22 ?_
        refine gm_nameI (fun x4 ex4 => ?_)
        have h := h x4 ex4
        refine gm_istoren C 3 [(3, .int x4), (0, .ref mo), (1, .int a1), (2, .int z9.1)] dX12_laysSounds_23 rfl (by decide) rfl ?_
        refine gm_iconst C 0 dX12_laysSounds_24 (by decide) ?_
        refine gm_istore C [(4, .int 0), (3, .int x4), (0, .ref mo), (1, .int a1), (2, .int z9.1)] dX12_laysSounds_25 (by decide) rfl ?_
        refine gm_sub [2, 3, 4, 1, 0] rfl ?_
        obtain ⟨n27, h⟩ := h
        have k27 : ∀ (n27 : Nat) (z27 : Int32 × MS), lp (w_laysSounds_L27 a1 (lp (w_laysSounds_L9 a1 Q) n9) z9 x4) n27 z27 → GM p l e (rmD 4) s m args below meth c 6 D cI cZ mo ad (gm_Q below D cI cZ mo ad (pV Q t) args s) z27.2 27 [(0, .ref mo), (1, .int a1), (2, .int z9.1), (3, .int x4), (4, .int z27.1)] [] := by
          intro n27
          induction n27 with
          | zero => intro z27 h; exact h.elim
          | succ n27 ih27 =>
            intro z27 h
            have h : w_laysSounds_L27 a1 (lp (w_laysSounds_L9 a1 Q) n9) z9 x4 (lp (w_laysSounds_L27 a1 (lp (w_laysSounds_L9 a1 Q) n9) z9 x4) n27) z27 := h
            unfold w_laysSounds_L27 at h
            refine gm_iload C 4 dX12_laysSounds_27 rfl ?_
            refine gm_aload C 0 dX12_laysSounds_29 rfl ?_
            refine gm_getA C 6 (by decide) rfl wf_25 rfl dX12_laysSounds_30 ?_
            refine gm_iloadn C 1 1 dX12_laysSounds_33 rfl rfl ?_
            refine gm_iloadn C 3 3 dX12_laysSounds_34 rfl rfl ?_
            refine gm_callS C (y := yX12_at) (as := [.int a1, .int x4]) rfl (by decide) (by decide) (c_at l D cI cZ mo ad a1 x4 z27.2) hy_at rfl wl_139 cu_at dX12_laysSounds_35 (Nat.le_of_ble_eq_true rfl) (kP ?_)
            obtain ⟨g5, h⟩ := h
            refine gm_iald C 6 (by decide) rfl g5 dX12_laysSounds_38 ?_
            refine gm_icmp_ge C 189 dX12_laysSounds_39 (by decide) (fun c39_2 => ?_) (fun c39_2 => ?_)
            · have h := h.1 c39_2
              refine gm_iinc C 2 (z9.1 + 1) [(2, .int (z9.1 + 1)), (0, .ref mo), (1, .int a1), (3, .int x4), (4, .int z27.1)] dX12_laysSounds_189 rfl rfl (by decide) rfl ?_
              refine gm_goto C 9 dX12_laysSounds_192 (by decide) ?_
              refine gm_sub [1, 2, 0] rfl ?_
              have h9 := ih9 ((z9.1 + 1), z27.2) h
              exact h9
            · have h := h.2 c39_2
              refine gm_sipush C 768 dX12_laysSounds_42 (by decide) ?_
              refine gm_iloadn C 1 1 dX12_laysSounds_45 rfl rfl ?_
              refine gm_imul C dX12_laysSounds_46 ?_
              refine gm_aload C 0 dX12_laysSounds_47 rfl ?_
              refine gm_getA C 27 (by decide) rfl wf_84 rfl dX12_laysSounds_48 ?_
              refine gm_iloadn C 1 1 dX12_laysSounds_51 rfl rfl ?_
              obtain ⟨g6, h⟩ := h
              refine gm_iald C 27 (by decide) rfl g6 dX12_laysSounds_52 ?_
              refine gm_iadd C dX12_laysSounds_53 ?_
              refine gm_nameI (fun x7 ex7 => ?_)
              have h := h x7 ex7
              refine gm_istore C [(5, .int x7), (0, .ref mo), (1, .int a1), (2, .int z9.1), (3, .int x4), (4, .int z27.1)] dX12_laysSounds_54 (by decide) rfl ?_
              refine gm_aload C 1 dX12_laysSounds_56 rfl ?_
              refine gm_getA C 8 (by decide) rfl wf_32 rfl dX12_laysSounds_57 ?_
              refine gm_iloadn C 2 1 dX12_laysSounds_60 rfl rfl ?_
              refine gm_iloadn C 4 3 dX12_laysSounds_61 rfl rfl ?_
              refine gm_iload C 5 dX12_laysSounds_62 rfl ?_
              refine gm_callS C (y := yX12_place) (as := [.int a1, .int x4, .int z27.1]) rfl (by decide) (by decide) (c_place l D cI cZ mo ad a1 x4 z27.1 z27.2) hy_place rfl wl_151 cu_place dX12_laysSounds_64 (Nat.le_of_ble_eq_true rfl) (kP ?_)
              obtain ⟨g8, h⟩ := h
              refine gm_iald C 8 (by decide) rfl g8 dX12_laysSounds_67 ?_
              obtain ⟨J183, hJ183, h⟩ := h
              have k183 : ∀ t9 : MS, J183 t9 → GM p l e (rmD 4) s m args below meth c 6 D cI cZ mo ad (gm_Q below D cI cZ mo ad (pV Q t) args s) t9 183 [(0, .ref mo), (1, .int a1), (2, .int z9.1), (3, .int x4), (4, .int z27.1)] [] := by
                intro t9 h
                have h := hJ183 t9 h
                refine gm_iinc C 4 (z27.1 + 1) [(4, .int (z27.1 + 1)), (0, .ref mo), (1, .int a1), (2, .int z9.1), (3, .int x4)] dX12_laysSounds_183 rfl rfl (by decide) rfl ?_
                refine gm_goto C 27 dX12_laysSounds_186 (by decide) ?_
                refine gm_sub [1, 2, 3, 4, 0] rfl ?_
                have h9 := ih27 ((z27.1 + 1), t9) h
                exact h9
              obtain ⟨J102, hJ102, h⟩ := h
              have k102 : J102 → GM p l e (rmD 4) s m args below meth c 6 D cI cZ mo ad (gm_Q below D cI cZ mo ad (pV Q t) args s) z27.2 102 [(0, .ref mo), (1, .int a1), (2, .int z9.1), (3, .int x4), (4, .int z27.1), (5, .int x7)] [] := by
                intro  h
                have h := hJ102 h
                refine gm_aload C 0 dX12_laysSounds_102 rfl ?_
                refine gm_getA C 8 (by decide) rfl wf_32 rfl dX12_laysSounds_103 ?_
                refine gm_iloadn C 1 1 dX12_laysSounds_106 rfl rfl ?_
                refine gm_iloadn C 3 3 dX12_laysSounds_107 rfl rfl ?_
                refine gm_iload C 4 dX12_laysSounds_108 rfl ?_
                refine gm_callS C (y := yX12_place) (as := [.int a1, .int x4, .int z27.1]) rfl (by decide) (by decide) (c_place l D cI cZ mo ad a1 x4 z27.1 z27.2) hy_place rfl wl_151 cu_place dX12_laysSounds_110 (Nat.le_of_ble_eq_true rfl) (kP ?_)
                obtain ⟨g10, h⟩ := h
                refine gm_iald C 8 (by decide) rfl g10 dX12_laysSounds_113 ?_
                refine gm_if_le C 183 dX12_laysSounds_114 (by decide) (fun c114_3 => ?_) (fun c114_3 => ?_)
                · have h := h.1 c114_3
                  refine gm_sub [0, 1, 2, 3, 4] rfl ?_
                  exact k183 z27.2 h
                · have h := h.2 c114_3
                  refine gm_aload C 0 dX12_laysSounds_117 rfl ?_
                  refine gm_getA C 28 (by decide) rfl wf_87 rfl dX12_laysSounds_118 ?_
                  refine gm_iload C 5 dX12_laysSounds_121 rfl ?_
                  refine gm_aload C 0 dX12_laysSounds_123 rfl ?_
                  refine gm_getA C 26 (by decide) rfl wf_81 rfl dX12_laysSounds_124 ?_
                  refine gm_iloadn C 2 2 dX12_laysSounds_127 rfl rfl ?_
                  obtain ⟨g11, h⟩ := h
                  refine gm_iald C 26 (by decide) rfl g11 dX12_laysSounds_128 ?_
                  refine gm_aload C 0 dX12_laysSounds_129 rfl ?_
                  refine gm_iloadn C 3 3 dX12_laysSounds_130 rfl rfl ?_
                  refine gm_aload C 0 dX12_laysSounds_131 rfl ?_
                  refine gm_iloadn C 1 1 dX12_laysSounds_132 rfl rfl ?_
                  refine gm_iloadn C 3 3 dX12_laysSounds_133 rfl rfl ?_
                  refine gm_iload C 4 dX12_laysSounds_134 rfl ?_
                  refine gm_callV C (y := yX12_ticks) (as := [.int a1, .int x4, .int z27.1]) rfl (by decide) (by decide) (c_ticks l D cI cZ mo ad a1 x4 z27.1 z27.2 _ h) hy_ticks rfl wl_158 cu_ticks dX12_laysSounds_136 (Nat.le_of_ble_eq_true rfl) (kI (fun r12 t12 h => ?_))
                  refine gm_callV C (y := yX12_lasts) (as := [.int x4, .int r12]) rfl (by decide) (by decide) (c_lasts l D cI cZ mo ad x4 r12 t12 _ h) hy_lasts rfl wl_178 cu_lasts dX12_laysSounds_139 (Nat.le_of_ble_eq_true rfl) (kI (fun r13 t13 h => ?_))
                  refine gm_iadd C dX12_laysSounds_142 ?_
                  obtain ⟨g14, h⟩ := h
                  refine gm_iast C 28 (by decide) rfl g14 dX12_laysSounds_143 ?_
                  refine gm_nameT (fun t15 et15 => ?_)
                  have h := h t15 et15
                  refine gm_aload C 0 dX12_laysSounds_144 rfl ?_
                  refine gm_getA C 29 (by decide) rfl wf_90 rfl dX12_laysSounds_145 ?_
                  refine gm_iload C 5 dX12_laysSounds_148 rfl ?_
                  refine gm_aload C 0 dX12_laysSounds_150 rfl ?_
                  refine gm_iloadn C 1 1 dX12_laysSounds_151 rfl rfl ?_
                  refine gm_iloadn C 2 2 dX12_laysSounds_152 rfl rfl ?_
                  refine gm_iload C 4 dX12_laysSounds_153 rfl ?_
                  refine gm_callV C (y := yX12_over) (as := [.int a1, .int z9.1, .int z27.1]) rfl (by decide) (by decide) (c_over l D cI cZ mo ad a1 z9.1 z27.1 t15 _ h) hy_over rfl wl_226 cu_over dX12_laysSounds_155 (Nat.le_of_ble_eq_true rfl) (kI (fun r16 t16 h => ?_))
                  obtain ⟨g17, h⟩ := h
                  refine gm_iast C 29 (by decide) rfl g17 dX12_laysSounds_158 ?_
                  refine gm_nameT (fun t18 et18 => ?_)
                  have h := h t18 et18
                  refine gm_aload C 0 dX12_laysSounds_159 rfl ?_
                  refine gm_getA C 30 (by decide) rfl wf_93 rfl dX12_laysSounds_160 ?_
                  refine gm_iload C 5 dX12_laysSounds_163 rfl ?_
                  refine gm_bipush C 16 dX12_laysSounds_165 (by decide) ?_
                  refine gm_iloadn C 3 3 dX12_laysSounds_167 rfl rfl ?_
                  refine gm_imul C dX12_laysSounds_168 ?_
                  refine gm_iload C 4 dX12_laysSounds_169 rfl ?_
                  refine gm_iadd C dX12_laysSounds_171 ?_
                  obtain ⟨g19, h⟩ := h
                  refine gm_iast C 30 (by decide) rfl g19 dX12_laysSounds_172 ?_
                  refine gm_nameT (fun t20 et20 => ?_)
                  have h := h t20 et20
                  refine gm_aload C 0 dX12_laysSounds_173 rfl ?_
                  refine gm_getA C 27 (by decide) rfl wf_84 rfl dX12_laysSounds_174 ?_
                  refine gm_iloadn C 1 1 dX12_laysSounds_177 rfl rfl ?_
                  refine gm_dup2 C dX12_laysSounds_178 rfl rfl ?_
                  obtain ⟨g21, h⟩ := h
                  refine gm_iald C 27 (by decide) rfl g21 dX12_laysSounds_179 ?_
                  refine gm_iconst C 1 dX12_laysSounds_180 (by decide) ?_
                  refine gm_iadd C dX12_laysSounds_181 ?_
                  obtain ⟨g22, h⟩ := h
                  refine gm_iast C 27 (by decide) rfl g22 dX12_laysSounds_182 ?_
                  refine gm_nameT (fun t23 et23 => ?_)
                  have h := h t23 et23
                  refine gm_sub [0, 1, 2, 3, 4] rfl ?_
                  exact k183 t23 h
              refine gm_if_le C 102 dX12_laysSounds_68 (by decide) (fun c68_4 => ?_) (fun c68_4 => ?_)
              · have h := h.1 c68_4
                refine gm_sub [1, 2, 3, 4, 5, 0] rfl ?_
                exact k102 h
              · have h := h.2 c68_4
                refine gm_aload C 1 dX12_laysSounds_71 rfl ?_
                refine gm_iloadn C 2 1 dX12_laysSounds_72 rfl rfl ?_
                refine gm_iloadn C 3 2 dX12_laysSounds_73 rfl rfl ?_
                refine gm_iload C 5 dX12_laysSounds_74 rfl ?_
                obtain ⟨g24, h⟩ := h
                refine gm_callV C (y := yX12_goesOn) (as := [.int a1, .int z9.1, .int z27.1]) rfl (by decide) (by decide) (c_goesOn l D cI cZ mo ad a1 z9.1 z27.1 z27.2 g24) hy_goesOn rfl wl_223 cu_goesOn dX12_laysSounds_76 (Nat.le_of_ble_eq_true rfl) (kP ?_)
                refine gm_if_eq C 102 dX12_laysSounds_79 (by decide) (fun c79_5 => ?_) (fun c79_5 => ?_)
                · have h := h.1 c79_5
                  refine gm_sub [1, 2, 3, 4, 5, 0] rfl ?_
                  exact k102 h
                · have h := h.2 c79_5
                  refine gm_aload C 1 dX12_laysSounds_82 rfl ?_
                  refine gm_getA C 29 (by decide) rfl wf_90 rfl dX12_laysSounds_83 ?_
                  refine gm_iload C 0 dX12_laysSounds_86 rfl ?_
                  refine gm_iconst C 1 dX12_laysSounds_88 (by decide) ?_
                  refine gm_isub C dX12_laysSounds_89 ?_
                  refine gm_aload C 1 dX12_laysSounds_90 rfl ?_
                  refine gm_iloadn C 2 1 dX12_laysSounds_91 rfl rfl ?_
                  refine gm_iloadn C 3 2 dX12_laysSounds_92 rfl rfl ?_
                  refine gm_iload C 5 dX12_laysSounds_93 rfl ?_
                  refine gm_callV C (y := yX12_over) (as := [.int a1, .int z9.1, .int z27.1]) rfl (by decide) (by decide) (c_over l D cI cZ mo ad a1 z9.1 z27.1 z27.2 _ h) hy_over rfl wl_226 cu_over dX12_laysSounds_95 (Nat.le_of_ble_eq_true rfl) (kI (fun r25 t25 h => ?_))
                  obtain ⟨g26, h⟩ := h
                  refine gm_iast C 29 (by decide) rfl g26 dX12_laysSounds_98 ?_
                  refine gm_nameT (fun t27 et27 => ?_)
                  have h := h t27 et27
                  refine gm_goto C 183 dX12_laysSounds_99 (by decide) ?_
                  refine gm_sub [1, 2, 3, 4, 5] rfl ?_
                  exact k183 t27 h
        exact k27 n27 (0, z9.2) h
  exact k9 n9 (0, t2) h
def w_laysAllSounds_L8 (Q : Int32 → MS → Prop) (K8 : (Int32 × Int32 × MS) → Prop) (z8 : Int32 × Int32 × MS) : Prop := ((4 ≤ z8.2.1) → Q z8.1 z8.2.2) ∧ (¬ (4 ≤ z8.2.1) → w_laysSounds z8.2.1 z8.2.2 (fun t2 => (mIn 27 z8.2.1) ∧ ∀ x4 : Int32, x4 = (z8.1 + (mgA t2 27 z8.2.1)) → K8 (x4, (z8.2.1 + 1), t2)))
def w_laysAllSounds (t : MS) (Q : Int32 → MS → Prop) : Prop := w_laysPlaces t (fun t1 => ∃ n, lp (w_laysAllSounds_L8 Q) n (0, 0, t1))
set_option maxRecDepth 20000 in
set_option maxHeartbeats 2000000 in
theorem c_laysAllSounds (l : Launch) (D : va_G) (cI cZ : ClassId) (mo : Nat) (ad : Nat → Nat) (t : MS) (Q : Int32 → MS → Prop) (h : w_laysAllSounds t Q) : MetM l yX12_laysAllSounds cX12_laysAllSounds 3 (some .int) 5 [.ref mo] (pI Q) D cI cZ mo ad t := by
  unfold w_laysAllSounds at h
  refine gm_start (by decide) rfl (Nat.le_of_ble_eq_true rfl) (fun p e s m args below meth c C E => ?_)
  refine gm_aload C 0 dX12_laysAllSounds_0 rfl ?_
  refine gm_callV C (y := yX12_laysPlaces) (as := []) rfl (by decide) (by decide) (c_laysPlaces l D cI cZ mo ad t _ h) hy_laysPlaces rfl wl_214 cu_laysPlaces dX12_laysAllSounds_1 (Nat.le_of_ble_eq_true rfl) (kV (fun t1 h => ?_))
  refine gm_iconst C 0 dX12_laysAllSounds_4 (by decide) ?_
  refine gm_istoren C 1 [(1, .int 0), (0, .ref mo)] dX12_laysAllSounds_5 rfl (by decide) rfl ?_
  refine gm_iconst C 0 dX12_laysAllSounds_6 (by decide) ?_
  refine gm_istoren C 2 [(2, .int 0), (1, .int 0), (0, .ref mo)] dX12_laysAllSounds_7 rfl (by decide) rfl ?_
  refine gm_sub [2, 1, 0] rfl ?_
  obtain ⟨n8, h⟩ := h
  have k8 : ∀ (n8 : Nat) (z8 : Int32 × Int32 × MS), lp (w_laysAllSounds_L8 Q) n8 z8 → GM p l e (rmD 5) s m args below meth c 3 D cI cZ mo ad (gm_Q below D cI cZ mo ad (pI Q t) args s) z8.2.2 8 [(0, .ref mo), (1, .int z8.1), (2, .int z8.2.1)] [] := by
    intro n8
    induction n8 with
    | zero => intro z8 h; exact h.elim
    | succ n8 ih8 =>
      intro z8 h
      have h : w_laysAllSounds_L8 Q (lp (w_laysAllSounds_L8 Q) n8) z8 := h
      unfold w_laysAllSounds_L8 at h
      refine gm_iloadn C 2 2 dX12_laysAllSounds_8 rfl rfl ?_
      refine gm_iconst C 4 dX12_laysAllSounds_9 (by decide) ?_
      refine gm_icmp_ge C 33 dX12_laysAllSounds_10 (by decide) (fun c10_1 => ?_) (fun c10_1 => ?_)
      · have h := h.1 c10_1
        refine gm_iloadn C 1 1 dX12_laysAllSounds_33 rfl rfl ?_
        exact gm_iret C E dX12_laysAllSounds_34 ⟨_, rfl, h⟩
      · have h := h.2 c10_1
        refine gm_aload C 0 dX12_laysAllSounds_13 rfl ?_
        refine gm_iloadn C 2 2 dX12_laysAllSounds_14 rfl rfl ?_
        refine gm_callV C (y := yX12_laysSounds) (as := [.int z8.2.1]) rfl (by decide) (by decide) (c_laysSounds l D cI cZ mo ad z8.2.1 z8.2.2 _ h) hy_laysSounds rfl wl_229 cu_laysSounds dX12_laysAllSounds_15 (Nat.le_of_ble_eq_true rfl) (kV (fun t2 h => ?_))
        refine gm_iloadn C 1 1 dX12_laysAllSounds_18 rfl rfl ?_
        refine gm_aload C 0 dX12_laysAllSounds_19 rfl ?_
        refine gm_getA C 27 (by decide) rfl wf_84 rfl dX12_laysAllSounds_20 ?_
        refine gm_iloadn C 2 2 dX12_laysAllSounds_23 rfl rfl ?_
        obtain ⟨g3, h⟩ := h
        refine gm_iald C 27 (by decide) rfl g3 dX12_laysAllSounds_24 ?_
        refine gm_iadd C dX12_laysAllSounds_25 ?_
        refine gm_nameI (fun x4 ex4 => ?_)
        have h := h x4 ex4
        refine gm_istoren C 1 [(1, .int x4), (0, .ref mo), (2, .int z8.2.1)] dX12_laysAllSounds_26 rfl (by decide) rfl ?_
        refine gm_iinc C 2 (z8.2.1 + 1) [(2, .int (z8.2.1 + 1)), (1, .int x4), (0, .ref mo)] dX12_laysAllSounds_27 rfl rfl (by decide) rfl ?_
        refine gm_goto C 8 dX12_laysAllSounds_30 (by decide) ?_
        refine gm_sub [2, 1, 0] rfl ?_
        have h9 := ih8 (x4, (z8.2.1 + 1), t2) h
        exact h9
  exact k8 n8 (0, 0, t1) h
def w_soundAt_L35 (K24 : (Int32 × Int32 × MS) → Prop) (z24 : Int32 × Int32 × MS) (K35 : (Int32 × Int32) → Prop) (z35 : Int32 × Int32) : Prop := ((4 ≤ z35.2) → (mIn 31 z35.1) ∧ ∀ x2 : Int32, x2 = ((768 * z35.1) + (mgA z24.2.2 31 z35.1)) → (mIn 31 z35.1) ∧ (mIn 31 z35.1) ∧ ∀ t5 : MS, t5 = msA z24.2.2 31 z35.1 ((mgA z24.2.2 31 z35.1) + 1) → K24 (x2, (z24.2.1 + 1), t5)) ∧ (¬ (4 ≤ z35.2) → (mIn 31 z35.2) ∧ (mIn 27 z35.2) ∧ ((¬ ((mgA z24.2.2 27 z35.2) ≤ (mgA z24.2.2 31 z35.2))) → (¬ (z35.1 = (-1))) → mIn 31 z35.2) ∧ ((¬ ((mgA z24.2.2 27 z35.2) ≤ (mgA z24.2.2 31 z35.2))) → (¬ (z35.1 = (-1))) → mIn 28 ((768 * z35.2) + (mgA z24.2.2 31 z35.2))) ∧ ((¬ ((mgA z24.2.2 27 z35.2) ≤ (mgA z24.2.2 31 z35.2))) → (¬ (z35.1 = (-1))) → mIn 31 z35.1) ∧ ((¬ ((mgA z24.2.2 27 z35.2) ≤ (mgA z24.2.2 31 z35.2))) → (¬ (z35.1 = (-1))) → mIn 28 ((768 * z35.1) + (mgA z24.2.2 31 z35.1))) ∧ ∀ x8 : Int32, x8 = (if (¬ ((mgA z24.2.2 27 z35.2) ≤ (mgA z24.2.2 31 z35.2))) ∧ ((z35.1 = (-1)) ∨ (¬ ((mgA z24.2.2 28 ((768 * z35.1) + (mgA z24.2.2 31 z35.1))) ≤ (mgA z24.2.2 28 ((768 * z35.2) + (mgA z24.2.2 31 z35.2)))))) then 1 else 0) → ∀ x13 : Int32, x13 = (if x8 = 0 then z35.1 else z35.2) → K35 (x13, (z35.2 + 1)))
def w_soundAt_L24 (a1 : Int32) (Q : Int32 → MS → Prop) (K24 : (Int32 × Int32 × MS) → Prop) (z24 : Int32 × Int32 × MS) : Prop := ((a1 < z24.2.1) → Q z24.1 z24.2.2) ∧ (¬ (a1 < z24.2.1) → ∃ n, lp (w_soundAt_L35 K24 z24) n ((-1), 0))
def w_soundAt_L4 (a1 : Int32) (Q : Int32 → MS → Prop) (K4 : (Int32 × MS) → Prop) (z4 : Int32 × MS) : Prop := ((4 ≤ z4.1) → ∃ n, lp (w_soundAt_L24 a1 Q) n ((-1), 0, z4.2)) ∧ (¬ (4 ≤ z4.1) → (mIn 31 z4.1) ∧ ∀ t15 : MS, t15 = msA z4.2 31 z4.1 0 → K4 ((z4.1 + 1), t15))
def w_soundAt (a1 : Int32) (t : MS) (Q : Int32 → MS → Prop) : Prop := ∃ n, lp (w_soundAt_L4 a1 Q) n (0, t)
set_option maxRecDepth 20000 in
set_option maxHeartbeats 2000000 in
theorem c_soundAt (l : Launch) (D : va_G) (cI cZ : ClassId) (mo : Nat) (ad : Nat → Nat) (a1 : Int32) (t : MS) (Q : Int32 → MS → Prop) (h : w_soundAt a1 t Q) : MetM l yX12_soundAt cX12_soundAt 7 (some .int) 0 [.ref mo, .int a1] (pI Q) D cI cZ mo ad t := by
  unfold w_soundAt at h
  refine gm_start (by decide) rfl (Nat.le_of_ble_eq_true rfl) (fun p e s m args below meth c C E => ?_)
  refine gm_iconst C (-1) dX12_soundAt_0 (by decide) ?_
  refine gm_istoren C 2 [(2, .int (-1)), (0, .ref mo), (1, .int a1)] dX12_soundAt_1 rfl (by decide) rfl ?_
  refine gm_iconst C 0 dX12_soundAt_2 (by decide) ?_
  refine gm_istoren C 3 [(3, .int 0), (2, .int (-1)), (0, .ref mo), (1, .int a1)] dX12_soundAt_3 rfl (by decide) rfl ?_
  refine gm_sub [2, 3, 1, 0] rfl ?_
  obtain ⟨n4, h⟩ := h
  have k4 : ∀ (n4 : Nat) (z4 : Int32 × MS), lp (w_soundAt_L4 a1 Q) n4 z4 → GM p l e (rmD 0) s m args below meth c 7 D cI cZ mo ad (gm_Q below D cI cZ mo ad (pI Q t) args s) z4.2 4 [(0, .ref mo), (1, .int a1), (2, .int (-1)), (3, .int z4.1)] [] := by
    intro n4
    induction n4 with
    | zero => intro z4 h; exact h.elim
    | succ n4 ih4 =>
      intro z4 h
      have h : w_soundAt_L4 a1 Q (lp (w_soundAt_L4 a1 Q) n4) z4 := h
      unfold w_soundAt_L4 at h
      refine gm_iloadn C 3 3 dX12_soundAt_4 rfl rfl ?_
      refine gm_iconst C 4 dX12_soundAt_5 (by decide) ?_
      refine gm_icmp_ge C 22 dX12_soundAt_6 (by decide) (fun c6_1 => ?_) (fun c6_1 => ?_)
      · have h := h.1 c6_1
        refine gm_iconst C 0 dX12_soundAt_22 (by decide) ?_
        refine gm_istoren C 3 [(3, .int 0), (0, .ref mo), (1, .int a1), (2, .int (-1))] dX12_soundAt_23 rfl (by decide) rfl ?_
        refine gm_sub [1, 2, 3, 0] rfl ?_
        obtain ⟨n24, h⟩ := h
        have k24 : ∀ (n24 : Nat) (z24 : Int32 × Int32 × MS), lp (w_soundAt_L24 a1 Q) n24 z24 → GM p l e (rmD 0) s m args below meth c 7 D cI cZ mo ad (gm_Q below D cI cZ mo ad (pI Q t) args s) z24.2.2 24 [(0, .ref mo), (1, .int a1), (2, .int z24.1), (3, .int z24.2.1)] [] := by
          intro n24
          induction n24 with
          | zero => intro z24 h; exact h.elim
          | succ n24 ih24 =>
            intro z24 h
            have h : w_soundAt_L24 a1 Q (lp (w_soundAt_L24 a1 Q) n24) z24 := h
            unfold w_soundAt_L24 at h
            refine gm_iloadn C 3 3 dX12_soundAt_24 rfl rfl ?_
            refine gm_iloadn C 1 1 dX12_soundAt_25 rfl rfl ?_
            refine gm_icmp_gt C 164 dX12_soundAt_26 (by decide) (fun c26_2 => ?_) (fun c26_2 => ?_)
            · have h := h.1 c26_2
              refine gm_iloadn C 2 2 dX12_soundAt_164 rfl rfl ?_
              exact gm_iret C E dX12_soundAt_165 ⟨_, rfl, h⟩
            · have h := h.2 c26_2
              refine gm_iconst C (-1) dX12_soundAt_29 (by decide) ?_
              refine gm_istore C [(4, .int (-1)), (0, .ref mo), (1, .int a1), (2, .int z24.1), (3, .int z24.2.1)] dX12_soundAt_30 (by decide) rfl ?_
              refine gm_iconst C 0 dX12_soundAt_32 (by decide) ?_
              refine gm_istore C [(5, .int 0), (4, .int (-1)), (0, .ref mo), (1, .int a1), (2, .int z24.1), (3, .int z24.2.1)] dX12_soundAt_33 (by decide) rfl ?_
              refine gm_sub [2, 3, 5, 1, 0] rfl ?_
              obtain ⟨n35, h⟩ := h
              have k35 : ∀ (n35 : Nat) (z35 : Int32 × Int32), lp (w_soundAt_L35 (lp (w_soundAt_L24 a1 Q) n24) z24) n35 z35 → GM p l e (rmD 0) s m args below meth c 7 D cI cZ mo ad (gm_Q below D cI cZ mo ad (pI Q t) args s) z24.2.2 35 [(0, .ref mo), (1, .int a1), (3, .int z24.2.1), (4, .int z35.1), (5, .int z35.2)] [] := by
                intro n35
                induction n35 with
                | zero => intro z35 h; exact h.elim
                | succ n35 ih35 =>
                  intro z35 h
                  have h : w_soundAt_L35 (lp (w_soundAt_L24 a1 Q) n24) z24 (lp (w_soundAt_L35 (lp (w_soundAt_L24 a1 Q) n24) z24) n35) z35 := h
                  unfold w_soundAt_L35 at h
                  refine gm_iload C 4 dX12_soundAt_35 rfl ?_
                  refine gm_iconst C 4 dX12_soundAt_37 (by decide) ?_
                  refine gm_icmp_ge C 132 dX12_soundAt_38 (by decide) (fun c38_3 => ?_) (fun c38_3 => ?_)
                  · have h := h.1 c38_3
                    refine gm_sipush C 768 dX12_soundAt_132 (by decide) ?_
                    refine gm_iload C 3 dX12_soundAt_135 rfl ?_
                    refine gm_imul C dX12_soundAt_137 ?_
                    refine gm_aload C 0 dX12_soundAt_138 rfl ?_
                    refine gm_getA C 31 (by decide) rfl wf_96 rfl dX12_soundAt_139 ?_
                    refine gm_iload C 3 dX12_soundAt_142 rfl ?_
                    obtain ⟨g1, h⟩ := h
                    refine gm_iald C 31 (by decide) rfl g1 dX12_soundAt_144 ?_
                    refine gm_iadd C dX12_soundAt_145 ?_
                    refine gm_nameI (fun x2 ex2 => ?_)
                    have h := h x2 ex2
                    refine gm_istoren C 2 [(2, .int x2), (0, .ref mo), (1, .int a1), (3, .int z24.2.1), (4, .int z35.1), (5, .int z35.2)] dX12_soundAt_146 rfl (by decide) rfl ?_
                    refine gm_aload C 1 dX12_soundAt_147 rfl ?_
                    refine gm_getA C 31 (by decide) rfl wf_96 rfl dX12_soundAt_148 ?_
                    refine gm_iload C 4 dX12_soundAt_151 rfl ?_
                    refine gm_dup2 C dX12_soundAt_153 rfl rfl ?_
                    obtain ⟨g3, h⟩ := h
                    refine gm_iald C 31 (by decide) rfl g3 dX12_soundAt_154 ?_
                    refine gm_iconst C 1 dX12_soundAt_155 (by decide) ?_
                    refine gm_iadd C dX12_soundAt_156 ?_
                    obtain ⟨g4, h⟩ := h
                    refine gm_iast C 31 (by decide) rfl g4 dX12_soundAt_157 ?_
                    refine gm_nameT (fun t5 et5 => ?_)
                    have h := h t5 et5
                    refine gm_iinc C 3 (z24.2.1 + 1) [(3, .int (z24.2.1 + 1)), (2, .int x2), (0, .ref mo), (1, .int a1), (4, .int z35.1), (5, .int z35.2)] dX12_soundAt_158 rfl rfl (by decide) rfl ?_
                    refine gm_goto C 24 dX12_soundAt_161 (by decide) ?_
                    refine gm_sub [2, 3, 1, 0] rfl ?_
                    have h9 := ih24 (x2, (z24.2.1 + 1), t5) h
                    exact h9
                  · have h := h.2 c38_3
                    refine gm_aload C 0 dX12_soundAt_41 rfl ?_
                    refine gm_getA C 31 (by decide) rfl wf_96 rfl dX12_soundAt_42 ?_
                    refine gm_iload C 4 dX12_soundAt_45 rfl ?_
                    obtain ⟨g6, h⟩ := h
                    refine gm_iald C 31 (by decide) rfl g6 dX12_soundAt_47 ?_
                    refine gm_aload C 0 dX12_soundAt_48 rfl ?_
                    refine gm_getA C 27 (by decide) rfl wf_84 rfl dX12_soundAt_49 ?_
                    refine gm_iload C 4 dX12_soundAt_52 rfl ?_
                    obtain ⟨g7, h⟩ := h
                    refine gm_iald C 27 (by decide) rfl g7 dX12_soundAt_54 ?_
                    obtain ⟨g9, h⟩ := h
                    obtain ⟨g10, h⟩ := h
                    obtain ⟨g11, h⟩ := h
                    obtain ⟨g12, h⟩ := h
                    have k110 : ∀ x8 : Int32, x8 = (if (¬ ((mgA z24.2.2 27 z35.2) ≤ (mgA z24.2.2 31 z35.2))) ∧ ((z35.1 = (-1)) ∨ (¬ ((mgA z24.2.2 28 ((768 * z35.1) + (mgA z24.2.2 31 z35.1))) ≤ (mgA z24.2.2 28 ((768 * z35.2) + (mgA z24.2.2 31 z35.2)))))) then 1 else 0) → GM p l e (rmD 0) s m args below meth c 7 D cI cZ mo ad (gm_Q below D cI cZ mo ad (pI Q t) args s) z24.2.2 110 [(0, .ref mo), (1, .int a1), (3, .int z24.2.1), (4, .int z35.1), (5, .int z35.2)] [.int x8] := by
                      intro x8 ex8
                      have h := h x8 ex8
                      refine gm_istore C [(6, .int x8), (0, .ref mo), (1, .int a1), (3, .int z24.2.1), (4, .int z35.1), (5, .int z35.2)] dX12_soundAt_110 (by decide) rfl ?_
                      refine gm_iload C 0 dX12_soundAt_112 rfl ?_
                      have k124 : ∀ x13 : Int32, x13 = (if x8 = 0 then z35.1 else z35.2) → GM p l e (rmD 0) s m args below meth c 7 D cI cZ mo ad (gm_Q below D cI cZ mo ad (pI Q t) args s) z24.2.2 124 [(0, .ref mo), (1, .int a1), (3, .int z24.2.1), (5, .int z35.2)] [.int x13] := by
                        intro x13 ex13
                        have h := h x13 ex13
                        refine gm_istore C [(4, .int x13), (0, .ref mo), (1, .int a1), (3, .int z24.2.1), (5, .int z35.2)] dX12_soundAt_124 (by decide) rfl ?_
                        refine gm_iinc C 4 (z35.2 + 1) [(5, .int (z35.2 + 1)), (4, .int x13), (0, .ref mo), (1, .int a1), (3, .int z24.2.1)] dX12_soundAt_126 rfl rfl (by decide) rfl ?_
                        refine gm_goto C 35 dX12_soundAt_129 (by decide) ?_
                        refine gm_sub [2, 3, 4, 1, 0] rfl ?_
                        have h9 := ih35 (x13, (z35.2 + 1)) h
                        exact h9
                      refine gm_if_eq C 122 dX12_soundAt_114 (by decide) (fun c114_7 => ?_) (fun c114_7 => ?_)
                      · refine gm_iload C 4 dX12_soundAt_122 rfl ?_
                        refine gm_sub [1, 2, 3, 5] rfl ?_
                        exact k124 _ ((if_pos c114_7).symm)
                      · refine gm_iload C 5 dX12_soundAt_117 rfl ?_
                        refine gm_goto C 124 dX12_soundAt_119 (by decide) ?_
                        refine gm_sub [1, 2, 3, 5] rfl ?_
                        exact k124 _ ((if_neg c114_7).symm)
                    refine gm_icmp_ge C 109 dX12_soundAt_55 (by decide) (fun c55_4 => ?_) (fun c55_4 => ?_)
                    · refine gm_iconst C 0 dX12_soundAt_109 (by decide) ?_
                      exact k110 _ ((if_neg (fun q0 => q0.1 c55_4)).symm)
                    · refine gm_iload C 3 dX12_soundAt_58 rfl ?_
                      refine gm_iconst C (-1) dX12_soundAt_60 (by decide) ?_
                      refine gm_icmp_eq C 105 dX12_soundAt_61 (by decide) (fun c61_5 => ?_) (fun c61_5 => ?_)
                      · refine gm_iconst C 1 dX12_soundAt_105 (by decide) ?_
                        refine gm_goto C 110 dX12_soundAt_106 (by decide) ?_
                        exact k110 _ ((if_pos ⟨c55_4, (Or.inl c61_5)⟩).symm)
                      · refine gm_aload C 0 dX12_soundAt_64 rfl ?_
                        refine gm_getA C 28 (by decide) rfl wf_87 rfl dX12_soundAt_65 ?_
                        refine gm_sipush C 768 dX12_soundAt_68 (by decide) ?_
                        refine gm_iload C 4 dX12_soundAt_71 rfl ?_
                        refine gm_imul C dX12_soundAt_73 ?_
                        refine gm_aload C 0 dX12_soundAt_74 rfl ?_
                        refine gm_getA C 31 (by decide) rfl wf_96 rfl dX12_soundAt_75 ?_
                        refine gm_iload C 4 dX12_soundAt_78 rfl ?_
                        refine gm_iald C 31 (by decide) rfl (g9 c55_4 c61_5) dX12_soundAt_80 ?_
                        refine gm_iadd C dX12_soundAt_81 ?_
                        refine gm_iald C 28 (by decide) rfl (g10 c55_4 c61_5) dX12_soundAt_82 ?_
                        refine gm_aload C 0 dX12_soundAt_83 rfl ?_
                        refine gm_getA C 28 (by decide) rfl wf_87 rfl dX12_soundAt_84 ?_
                        refine gm_sipush C 768 dX12_soundAt_87 (by decide) ?_
                        refine gm_iload C 3 dX12_soundAt_90 rfl ?_
                        refine gm_imul C dX12_soundAt_92 ?_
                        refine gm_aload C 0 dX12_soundAt_93 rfl ?_
                        refine gm_getA C 31 (by decide) rfl wf_96 rfl dX12_soundAt_94 ?_
                        refine gm_iload C 3 dX12_soundAt_97 rfl ?_
                        refine gm_iald C 31 (by decide) rfl (g11 c55_4 c61_5) dX12_soundAt_99 ?_
                        refine gm_iadd C dX12_soundAt_100 ?_
                        refine gm_iald C 28 (by decide) rfl (g12 c55_4 c61_5) dX12_soundAt_101 ?_
                        refine gm_icmp_ge C 109 dX12_soundAt_102 (by decide) (fun c102_6 => ?_) (fun c102_6 => ?_)
                        · refine gm_iconst C 0 dX12_soundAt_109 (by decide) ?_
                          exact k110 _ ((if_neg (fun q0 => (fun q1 => Or.elim q1 c61_5 (fun q2 => q2 c102_6)) q0.2)).symm)
                        · refine gm_iconst C 1 dX12_soundAt_105 (by decide) ?_
                          refine gm_goto C 110 dX12_soundAt_106 (by decide) ?_
                          exact k110 _ ((if_pos ⟨c55_4, (Or.inr c102_6)⟩).symm)
              exact k35 n35 ((-1), 0) h
        exact k24 n24 ((-1), 0, z4.2) h
      · have h := h.2 c6_1
        refine gm_aload C 0 dX12_soundAt_9 rfl ?_
        refine gm_getA C 31 (by decide) rfl wf_96 rfl dX12_soundAt_10 ?_
        refine gm_iloadn C 3 3 dX12_soundAt_13 rfl rfl ?_
        refine gm_iconst C 0 dX12_soundAt_14 (by decide) ?_
        obtain ⟨g14, h⟩ := h
        refine gm_iast C 31 (by decide) rfl g14 dX12_soundAt_15 ?_
        refine gm_nameT (fun t15 et15 => ?_)
        have h := h t15 et15
        refine gm_iinc C 3 (z4.1 + 1) [(3, .int (z4.1 + 1)), (0, .ref mo), (1, .int a1), (2, .int (-1))] dX12_soundAt_16 rfl rfl (by decide) rfl ?_
        refine gm_goto C 4 dX12_soundAt_19 (by decide) ?_
        refine gm_sub [1, 2, 3, 0] rfl ?_
        have h9 := ih4 ((z4.1 + 1), t15) h
        exact h9
  exact k4 n4 (0, t) h
def w_isSound (a1 : Int32) (t : MS) (Q : Int32 → MS → Prop) : Prop := w_laysAllSounds t (fun r1 t1 => w_goes (v_in a1 0 (r1 - 1)) 1 1 t1 (fun r2 t2 => (gb r2) ∧ Q r2 t2))
set_option maxRecDepth 20000 in
set_option maxHeartbeats 2000000 in
theorem c_isSound (l : Launch) (D : va_G) (cI cZ : ClassId) (mo : Nat) (ad : Nat → Nat) (a1 : Int32) (t : MS) (Q : Int32 → MS → Prop) (h : w_isSound a1 t Q) : MetM l yX12_isSound cX12_isSound 3 (some .boolean) 6 [.ref mo, .int a1] (pI Q) D cI cZ mo ad t := by
  unfold w_isSound at h
  refine gm_start (by decide) rfl (Nat.le_of_ble_eq_true rfl) (fun p e s m args below meth c C E => ?_)
  refine gm_aload C 0 dX12_isSound_0 rfl ?_
  refine gm_callV C (y := yX12_laysAllSounds) (as := []) rfl (by decide) (by decide) (c_laysAllSounds l D cI cZ mo ad t _ h) hy_laysAllSounds rfl wl_233 cu_laysAllSounds dX12_isSound_1 (Nat.le_of_ble_eq_true rfl) (kI (fun r1 t1 h => ?_))
  refine gm_istoren C 2 [(2, .int r1), (0, .ref mo), (1, .int a1)] dX12_isSound_4 rfl (by decide) rfl ?_
  refine gm_aload C 1 dX12_isSound_5 rfl ?_
  refine gm_iloadn C 2 1 dX12_isSound_6 rfl rfl ?_
  refine gm_iconst C 0 dX12_isSound_7 (by decide) ?_
  refine gm_iloadn C 0 2 dX12_isSound_8 rfl rfl ?_
  refine gm_iconst C 1 dX12_isSound_9 (by decide) ?_
  refine gm_isub C dX12_isSound_10 ?_
  refine gm_callS C (y := yX12_in) (as := [.int a1, .int 0, .int (r1 - 1)]) rfl (by decide) (by decide) (c_in l D cI cZ mo ad a1 0 (r1 - 1) t1) hy_in rfl wl_135 cu_in dX12_isSound_11 (Nat.le_of_ble_eq_true rfl) (kP ?_)
  refine gm_iconst C 1 dX12_isSound_14 (by decide) ?_
  refine gm_iconst C 1 dX12_isSound_15 (by decide) ?_
  refine gm_callV C (y := yX12_goes) (as := [.int (v_in a1 0 (r1 - 1)), .int 1, .int 1]) rfl (by decide) (by decide) (c_goes l D cI cZ mo ad (v_in a1 0 (r1 - 1)) 1 1 t1 _ h) hy_goes rfl wl_165 cu_goes dX12_isSound_16 (Nat.le_of_ble_eq_true rfl) (kI (fun r2 t2 h => ?_))
  obtain ⟨g3, h⟩ := h
  exact gm_zret C E g3 dX12_isSound_19 ⟨_, rfl, h⟩
def w_sounds (t : MS) (Q : Int32 → MS → Prop) : Prop := w_laysAllSounds t (fun r1 t1 => w_tells r1 t1 (fun r2 t2 => Q r2 t2))
set_option maxRecDepth 20000 in
set_option maxHeartbeats 2000000 in
theorem c_sounds (l : Launch) (D : va_G) (cI cZ : ClassId) (mo : Nat) (ad : Nat → Nat) (t : MS) (Q : Int32 → MS → Prop) (h : w_sounds t Q) : MetM l yX12_sounds cX12_sounds 1 (some .int) 6 [.ref mo] (pI Q) D cI cZ mo ad t := by
  unfold w_sounds at h
  refine gm_start (by decide) rfl (Nat.le_of_ble_eq_true rfl) (fun p e s m args below meth c C E => ?_)
  refine gm_aload C 0 dX12_sounds_0 rfl ?_
  refine gm_aload C 0 dX12_sounds_1 rfl ?_
  refine gm_callV C (y := yX12_laysAllSounds) (as := []) rfl (by decide) (by decide) (c_laysAllSounds l D cI cZ mo ad t _ h) hy_laysAllSounds rfl wl_233 cu_laysAllSounds dX12_sounds_2 (Nat.le_of_ble_eq_true rfl) (kI (fun r1 t1 h => ?_))
  refine gm_callV C (y := yX12_tells) (as := [.int r1]) rfl (by decide) (by decide) (c_tells l D cI cZ mo ad r1 t1 _ h) hy_tells rfl wl_175 cu_tells dX12_sounds_5 (Nat.le_of_ble_eq_true rfl) (kI (fun r2 t2 h => ?_))
  exact gm_iret C E dX12_sounds_8 ⟨_, rfl, h⟩
def w_soundVoice (a1 : Int32) (t : MS) (Q : Int32 → MS → Prop) : Prop := w_isSound a1 t (fun r1 t1 => ∃ J21 : Int32 → MS → Prop, (∀ x2 : Int32, ∀ t3 : MS, J21 x2 t3 → (Q x2 t3)) ∧ (((r1 = 0) → J21 0 t1) ∧ (¬ (r1 = 0) → w_soundAt a1 t1 (fun r4 t4 => J21 (r4 / 768) t4))))
set_option maxRecDepth 20000 in
set_option maxHeartbeats 2000000 in
theorem c_soundVoice (l : Launch) (D : va_G) (cI cZ : ClassId) (mo : Nat) (ad : Nat → Nat) (a1 : Int32) (t : MS) (Q : Int32 → MS → Prop) (h : w_soundVoice a1 t Q) : MetM l yX12_soundVoice cX12_soundVoice 2 (some .int) 7 [.ref mo, .int a1] (pI Q) D cI cZ mo ad t := by
  unfold w_soundVoice at h
  refine gm_start (by decide) rfl (Nat.le_of_ble_eq_true rfl) (fun p e s m args below meth c C E => ?_)
  refine gm_aload C 0 dX12_soundVoice_0 rfl ?_
  refine gm_iloadn C 1 1 dX12_soundVoice_1 rfl rfl ?_
  refine gm_callV C (y := yX12_isSound) (as := [.int a1]) rfl (by decide) (by decide) (c_isSound l D cI cZ mo ad a1 t _ h) hy_isSound rfl wl_236 cu_isSound dX12_soundVoice_2 (Nat.le_of_ble_eq_true rfl) (kI (fun r1 t1 h => ?_))
  obtain ⟨J21, hJ21, h⟩ := h
  have k21 : ∀ x2 : Int32, ∀ t3 : MS, J21 x2 t3 → GM p l e (rmD 7) s m args below meth c 2 D cI cZ mo ad (gm_Q below D cI cZ mo ad (pI Q t) args s) t3 21 [] [.int x2] := by
    intro x2 t3 h
    have h := hJ21 x2 t3 h
    exact gm_iret C E dX12_soundVoice_21 ⟨_, rfl, h⟩
  refine gm_if_eq C 20 dX12_soundVoice_5 (by decide) (fun c5_1 => ?_) (fun c5_1 => ?_)
  · have h := h.1 c5_1
    refine gm_iconst C 0 dX12_soundVoice_20 (by decide) ?_
    refine gm_sub [] rfl ?_
    exact k21 0 t1 h
  · have h := h.2 c5_1
    refine gm_aload C 0 dX12_soundVoice_8 rfl ?_
    refine gm_iloadn C 1 1 dX12_soundVoice_9 rfl rfl ?_
    refine gm_callV C (y := yX12_soundAt) (as := [.int a1]) rfl (by decide) (by decide) (c_soundAt l D cI cZ mo ad a1 t1 _ h) hy_soundAt rfl wl_239 cu_soundAt dX12_soundVoice_10 (Nat.le_of_ble_eq_true rfl) (kI (fun r4 t4 h => ?_))
    refine gm_sipush C 768 dX12_soundVoice_13 (by decide) ?_
    refine gm_idiv C dX12_soundVoice_16 (by decide) ?_
    refine gm_goto C 21 dX12_soundVoice_17 (by decide) ?_
    refine gm_sub [] rfl ?_
    exact k21 (r4 / 768) t4 h
def w_soundStart (a1 : Int32) (t : MS) (Q : Int32 → MS → Prop) : Prop := w_isSound a1 t (fun r1 t1 => ∃ J22 : Int32 → MS → Prop, (∀ x2 : Int32, ∀ t3 : MS, J22 x2 t3 → (Q x2 t3)) ∧ (((r1 = 0) → J22 0 t1) ∧ (¬ (r1 = 0) → w_soundAt a1 t1 (fun r4 t4 => (mIn 28 r4) ∧ J22 (mgA t4 28 r4) t4))))
set_option maxRecDepth 20000 in
set_option maxHeartbeats 2000000 in
theorem c_soundStart (l : Launch) (D : va_G) (cI cZ : ClassId) (mo : Nat) (ad : Nat → Nat) (a1 : Int32) (t : MS) (Q : Int32 → MS → Prop) (h : w_soundStart a1 t Q) : MetM l yX12_soundStart cX12_soundStart 2 (some .int) 7 [.ref mo, .int a1] (pI Q) D cI cZ mo ad t := by
  unfold w_soundStart at h
  refine gm_start (by decide) rfl (Nat.le_of_ble_eq_true rfl) (fun p e s m args below meth c C E => ?_)
  refine gm_aload C 0 dX12_soundStart_0 rfl ?_
  refine gm_iloadn C 1 1 dX12_soundStart_1 rfl rfl ?_
  refine gm_callV C (y := yX12_isSound) (as := [.int a1]) rfl (by decide) (by decide) (c_isSound l D cI cZ mo ad a1 t _ h) hy_isSound rfl wl_236 cu_isSound dX12_soundStart_2 (Nat.le_of_ble_eq_true rfl) (kI (fun r1 t1 h => ?_))
  obtain ⟨J22, hJ22, h⟩ := h
  have k22 : ∀ x2 : Int32, ∀ t3 : MS, J22 x2 t3 → GM p l e (rmD 7) s m args below meth c 2 D cI cZ mo ad (gm_Q below D cI cZ mo ad (pI Q t) args s) t3 22 [] [.int x2] := by
    intro x2 t3 h
    have h := hJ22 x2 t3 h
    exact gm_iret C E dX12_soundStart_22 ⟨_, rfl, h⟩
  refine gm_if_eq C 21 dX12_soundStart_5 (by decide) (fun c5_1 => ?_) (fun c5_1 => ?_)
  · have h := h.1 c5_1
    refine gm_iconst C 0 dX12_soundStart_21 (by decide) ?_
    refine gm_sub [] rfl ?_
    exact k22 0 t1 h
  · have h := h.2 c5_1
    refine gm_aload C 0 dX12_soundStart_8 rfl ?_
    refine gm_getA C 28 (by decide) rfl wf_87 rfl dX12_soundStart_9 ?_
    refine gm_aload C 0 dX12_soundStart_12 rfl ?_
    refine gm_iloadn C 1 1 dX12_soundStart_13 rfl rfl ?_
    refine gm_callV C (y := yX12_soundAt) (as := [.int a1]) rfl (by decide) (by decide) (c_soundAt l D cI cZ mo ad a1 t1 _ h) hy_soundAt rfl wl_239 cu_soundAt dX12_soundStart_14 (Nat.le_of_ble_eq_true rfl) (kI (fun r4 t4 h => ?_))
    obtain ⟨g5, h⟩ := h
    refine gm_iald C 28 (by decide) rfl g5 dX12_soundStart_17 ?_
    refine gm_goto C 22 dX12_soundStart_18 (by decide) ?_
    refine gm_sub [] rfl ?_
    exact k22 (mgA t4 28 r4) t4 h
def w_soundTime (a1 : Int32) (t : MS) (Q : Int32 → MS → Prop) : Prop := w_isSound a1 t (fun r1 t1 => ∃ J33 : Int32 → MS → Prop, (∀ x2 : Int32, ∀ t3 : MS, J33 x2 t3 → (Q x2 t3)) ∧ (((r1 = 0) → J33 0 t1) ∧ (¬ (r1 = 0) → w_soundAt a1 t1 (fun r4 t4 => (mIn 29 r4) ∧ w_soundAt a1 t4 (fun r6 t6 => (mIn 28 r6) ∧ J33 ((mgA t4 29 r4) - (mgA t6 28 r6)) t6)))))
set_option maxRecDepth 20000 in
set_option maxHeartbeats 2000000 in
theorem c_soundTime (l : Launch) (D : va_G) (cI cZ : ClassId) (mo : Nat) (ad : Nat → Nat) (a1 : Int32) (t : MS) (Q : Int32 → MS → Prop) (h : w_soundTime a1 t Q) : MetM l yX12_soundTime cX12_soundTime 2 (some .int) 7 [.ref mo, .int a1] (pI Q) D cI cZ mo ad t := by
  unfold w_soundTime at h
  refine gm_start (by decide) rfl (Nat.le_of_ble_eq_true rfl) (fun p e s m args below meth c C E => ?_)
  refine gm_aload C 0 dX12_soundTime_0 rfl ?_
  refine gm_iloadn C 1 1 dX12_soundTime_1 rfl rfl ?_
  refine gm_callV C (y := yX12_isSound) (as := [.int a1]) rfl (by decide) (by decide) (c_isSound l D cI cZ mo ad a1 t _ h) hy_isSound rfl wl_236 cu_isSound dX12_soundTime_2 (Nat.le_of_ble_eq_true rfl) (kI (fun r1 t1 h => ?_))
  obtain ⟨J33, hJ33, h⟩ := h
  have k33 : ∀ x2 : Int32, ∀ t3 : MS, J33 x2 t3 → GM p l e (rmD 7) s m args below meth c 2 D cI cZ mo ad (gm_Q below D cI cZ mo ad (pI Q t) args s) t3 33 [] [.int x2] := by
    intro x2 t3 h
    have h := hJ33 x2 t3 h
    exact gm_iret C E dX12_soundTime_33 ⟨_, rfl, h⟩
  refine gm_if_eq C 32 dX12_soundTime_5 (by decide) (fun c5_1 => ?_) (fun c5_1 => ?_)
  · have h := h.1 c5_1
    refine gm_iconst C 0 dX12_soundTime_32 (by decide) ?_
    refine gm_sub [] rfl ?_
    exact k33 0 t1 h
  · have h := h.2 c5_1
    refine gm_aload C 0 dX12_soundTime_8 rfl ?_
    refine gm_getA C 29 (by decide) rfl wf_90 rfl dX12_soundTime_9 ?_
    refine gm_aload C 0 dX12_soundTime_12 rfl ?_
    refine gm_iloadn C 1 1 dX12_soundTime_13 rfl rfl ?_
    refine gm_callV C (y := yX12_soundAt) (as := [.int a1]) rfl (by decide) (by decide) (c_soundAt l D cI cZ mo ad a1 t1 _ h) hy_soundAt rfl wl_239 cu_soundAt dX12_soundTime_14 (Nat.le_of_ble_eq_true rfl) (kI (fun r4 t4 h => ?_))
    obtain ⟨g5, h⟩ := h
    refine gm_iald C 29 (by decide) rfl g5 dX12_soundTime_17 ?_
    refine gm_aload C 0 dX12_soundTime_18 rfl ?_
    refine gm_getA C 28 (by decide) rfl wf_87 rfl dX12_soundTime_19 ?_
    refine gm_aload C 0 dX12_soundTime_22 rfl ?_
    refine gm_iloadn C 1 1 dX12_soundTime_23 rfl rfl ?_
    refine gm_callV C (y := yX12_soundAt) (as := [.int a1]) rfl (by decide) (by decide) (c_soundAt l D cI cZ mo ad a1 t4 _ h) hy_soundAt rfl wl_239 cu_soundAt dX12_soundTime_24 (Nat.le_of_ble_eq_true rfl) (kI (fun r6 t6 h => ?_))
    obtain ⟨g7, h⟩ := h
    refine gm_iald C 28 (by decide) rfl g7 dX12_soundTime_27 ?_
    refine gm_isub C dX12_soundTime_28 ?_
    refine gm_goto C 33 dX12_soundTime_29 (by decide) ?_
    refine gm_sub [] rfl ?_
    exact k33 ((mgA t4 29 r4) - (mgA t6 28 r6)) t6 h
def v_eventOf (a1 : Int32) (t : MS) : Int32 := ((384 * (a1 / 768)) + (mgA t 30 a1))
def d_eventOf (a1 : Int32) : Prop := (mIn 30 a1)
set_option maxRecDepth 20000 in
theorem c_eventOf (l : Launch) (D : va_G) (cI cZ : ClassId) (mo : Nat) (ad : Nat → Nat) (a1 : Int32) (t : MS) (h : d_eventOf a1) : MetM l yX12_eventOf cX12_eventOf 2 (some .int) 0 [.ref mo, .int a1] (pI (fun r t' => (v_eventOf a1 t) = r ∧ t = t')) D cI cZ mo ad t := by
  have g1 := h
  refine gm_start (by decide) rfl (Nat.le_of_ble_eq_true rfl) (fun p e s m args below meth c C E => ?_)
  refine gm_sipush C 384 dX12_eventOf_0 (by decide) ?_
  refine gm_iloadn C 1 1 dX12_eventOf_3 rfl rfl ?_
  refine gm_sipush C 768 dX12_eventOf_4 (by decide) ?_
  refine gm_idiv C dX12_eventOf_7 (by decide) ?_
  refine gm_imul C dX12_eventOf_8 ?_
  refine gm_aload C 0 dX12_eventOf_9 rfl ?_
  refine gm_getA C 30 (by decide) rfl wf_93 rfl dX12_eventOf_10 ?_
  refine gm_iloadn C 1 1 dX12_eventOf_13 rfl rfl ?_
  refine gm_iald C 30 (by decide) rfl (g1) dX12_eventOf_14 ?_
  refine gm_iadd C dX12_eventOf_15 ?_
  exact gm_iret C E dX12_eventOf_16 ⟨_, rfl, (rfl), rfl⟩
def w_soundPitch (a1 : Int32) (t : MS) (Q : Int32 → MS → Prop) : Prop := w_isSound a1 t (fun r1 t1 => ∃ J26 : Int32 → MS → Prop, (∀ x2 : Int32, ∀ t3 : MS, J26 x2 t3 → (Q x2 t3)) ∧ (((r1 = 0) → J26 0 t1) ∧ (¬ (r1 = 0) → w_soundAt a1 t1 (fun r4 t4 => (d_eventOf r4) ∧ (mIn 8 (v_eventOf r4 t4)) ∧ J26 (mgA t4 8 (v_eventOf r4 t4)) t4))))
set_option maxRecDepth 20000 in
set_option maxHeartbeats 2000000 in
theorem c_soundPitch (l : Launch) (D : va_G) (cI cZ : ClassId) (mo : Nat) (ad : Nat → Nat) (a1 : Int32) (t : MS) (Q : Int32 → MS → Prop) (h : w_soundPitch a1 t Q) : MetM l yX12_soundPitch cX12_soundPitch 2 (some .int) 7 [.ref mo, .int a1] (pI Q) D cI cZ mo ad t := by
  unfold w_soundPitch at h
  refine gm_start (by decide) rfl (Nat.le_of_ble_eq_true rfl) (fun p e s m args below meth c C E => ?_)
  refine gm_aload C 0 dX12_soundPitch_0 rfl ?_
  refine gm_iloadn C 1 1 dX12_soundPitch_1 rfl rfl ?_
  refine gm_callV C (y := yX12_isSound) (as := [.int a1]) rfl (by decide) (by decide) (c_isSound l D cI cZ mo ad a1 t _ h) hy_isSound rfl wl_236 cu_isSound dX12_soundPitch_2 (Nat.le_of_ble_eq_true rfl) (kI (fun r1 t1 h => ?_))
  obtain ⟨J26, hJ26, h⟩ := h
  have k26 : ∀ x2 : Int32, ∀ t3 : MS, J26 x2 t3 → GM p l e (rmD 7) s m args below meth c 2 D cI cZ mo ad (gm_Q below D cI cZ mo ad (pI Q t) args s) t3 26 [] [.int x2] := by
    intro x2 t3 h
    have h := hJ26 x2 t3 h
    exact gm_iret C E dX12_soundPitch_26 ⟨_, rfl, h⟩
  refine gm_if_eq C 25 dX12_soundPitch_5 (by decide) (fun c5_1 => ?_) (fun c5_1 => ?_)
  · have h := h.1 c5_1
    refine gm_iconst C 0 dX12_soundPitch_25 (by decide) ?_
    refine gm_sub [] rfl ?_
    exact k26 0 t1 h
  · have h := h.2 c5_1
    refine gm_aload C 0 dX12_soundPitch_8 rfl ?_
    refine gm_getA C 8 (by decide) rfl wf_32 rfl dX12_soundPitch_9 ?_
    refine gm_aload C 0 dX12_soundPitch_12 rfl ?_
    refine gm_aload C 0 dX12_soundPitch_13 rfl ?_
    refine gm_iloadn C 1 1 dX12_soundPitch_14 rfl rfl ?_
    refine gm_callV C (y := yX12_soundAt) (as := [.int a1]) rfl (by decide) (by decide) (c_soundAt l D cI cZ mo ad a1 t1 _ h) hy_soundAt rfl wl_239 cu_soundAt dX12_soundPitch_15 (Nat.le_of_ble_eq_true rfl) (kI (fun r4 t4 h => ?_))
    obtain ⟨g5, h⟩ := h
    refine gm_callV C (y := yX12_eventOf) (as := [.int r4]) rfl (by decide) (by decide) (c_eventOf l D cI cZ mo ad r4 t4 g5) hy_eventOf rfl wl_242 cu_eventOf dX12_soundPitch_18 (Nat.le_of_ble_eq_true rfl) (kP ?_)
    obtain ⟨g6, h⟩ := h
    refine gm_iald C 8 (by decide) rfl g6 dX12_soundPitch_21 ?_
    refine gm_goto C 26 dX12_soundPitch_22 (by decide) ?_
    refine gm_sub [] rfl ?_
    exact k26 (mgA t4 8 (v_eventOf r4 t4)) t4 h
def w_loudness_L28 (Q : Int32 → MS → Prop) (r2 : Int32) (t2 : MS) (x3 : Int32) (K28 : (Int32 × Int32) → Prop) (z28 : Int32 × Int32) : Prop := (mIn 30 r2) ∧ (((mgA t2 30 r2) < z28.2) → Q z28.1 t2) ∧ (¬ ((mgA t2 30 r2) < z28.2) → (mIn 6 (v_at x3 (z28.2 / 16))) ∧ ((¬ ((mgA t2 6 (v_at x3 (z28.2 / 16))) ≤ (mRem z28.2 16))) → mIn 11 (v_place x3 (z28.2 / 16) (mRem z28.2 16))) ∧ ∀ x6 : Int32, x6 = (if (¬ ((mgA t2 6 (v_at x3 (z28.2 / 16))) ≤ (mRem z28.2 16))) ∧ (¬ ((mgA t2 11 (v_place x3 (z28.2 / 16) (mRem z28.2 16))) = (-1))) then 1 else 0) → ((¬ (x6 = 0)) → mIn 11 (v_place x3 (z28.2 / 16) (mRem z28.2 16))) ∧ ∀ x8 : Int32, x8 = (if x6 = 0 then z28.1 else (mgA t2 11 (v_place x3 (z28.2 / 16) (mRem z28.2 16)))) → K28 (x8, (z28.2 + 1)))
def w_loudness (a1 : Int32) (t : MS) (Q : Int32 → MS → Prop) : Prop := w_isSound a1 t (fun r1 t1 => ((r1 = 0) → Q 0 t1) ∧ (¬ (r1 = 0) → w_soundAt a1 t1 (fun r2 t2 => ∀ x3 : Int32, x3 = (r2 / 768) → ∃ n, lp (w_loudness_L28 Q r2 t2 x3) n (2, 0))))
set_option maxRecDepth 20000 in
set_option maxHeartbeats 2000000 in
theorem c_loudness (l : Launch) (D : va_G) (cI cZ : ClassId) (mo : Nat) (ad : Nat → Nat) (a1 : Int32) (t : MS) (Q : Int32 → MS → Prop) (h : w_loudness a1 t Q) : MetM l yX12_loudness cX12_loudness 7 (some .int) 7 [.ref mo, .int a1] (pI Q) D cI cZ mo ad t := by
  unfold w_loudness at h
  refine gm_start (by decide) rfl (Nat.le_of_ble_eq_true rfl) (fun p e s m args below meth c C E => ?_)
  refine gm_aload C 0 dX12_loudness_0 rfl ?_
  refine gm_iloadn C 1 1 dX12_loudness_1 rfl rfl ?_
  refine gm_callV C (y := yX12_isSound) (as := [.int a1]) rfl (by decide) (by decide) (c_isSound l D cI cZ mo ad a1 t _ h) hy_isSound rfl wl_236 cu_isSound dX12_loudness_2 (Nat.le_of_ble_eq_true rfl) (kI (fun r1 t1 h => ?_))
  refine gm_if_ne C 10 dX12_loudness_5 (by decide) (fun c5_1 => ?_) (fun c5_1 => ?_)
  · have h := h.2 c5_1
    refine gm_aload C 0 dX12_loudness_10 rfl ?_
    refine gm_iloadn C 1 1 dX12_loudness_11 rfl rfl ?_
    refine gm_callV C (y := yX12_soundAt) (as := [.int a1]) rfl (by decide) (by decide) (c_soundAt l D cI cZ mo ad a1 t1 _ h) hy_soundAt rfl wl_239 cu_soundAt dX12_loudness_12 (Nat.le_of_ble_eq_true rfl) (kI (fun r2 t2 h => ?_))
    refine gm_istoren C 2 [(2, .int r2), (0, .ref mo), (1, .int a1)] dX12_loudness_15 rfl (by decide) rfl ?_
    refine gm_iloadn C 0 2 dX12_loudness_16 rfl rfl ?_
    refine gm_sipush C 768 dX12_loudness_17 (by decide) ?_
    refine gm_idiv C dX12_loudness_20 (by decide) ?_
    refine gm_nameI (fun x3 ex3 => ?_)
    have h := h x3 ex3
    refine gm_istoren C 3 [(3, .int x3), (2, .int r2), (0, .ref mo), (1, .int a1)] dX12_loudness_21 rfl (by decide) rfl ?_
    refine gm_iconst C 2 dX12_loudness_22 (by decide) ?_
    refine gm_istore C [(4, .int 2), (3, .int x3), (2, .int r2), (0, .ref mo), (1, .int a1)] dX12_loudness_23 (by decide) rfl ?_
    refine gm_iconst C 0 dX12_loudness_25 (by decide) ?_
    refine gm_istore C [(5, .int 0), (4, .int 2), (3, .int x3), (2, .int r2), (0, .ref mo), (1, .int a1)] dX12_loudness_26 (by decide) rfl ?_
    refine gm_sub [4, 3, 2, 1, 0] rfl ?_
    obtain ⟨n28, h⟩ := h
    have k28 : ∀ (n28 : Nat) (z28 : Int32 × Int32), lp (w_loudness_L28 Q r2 t2 x3) n28 z28 → GM p l e (rmD 7) s m args below meth c 7 D cI cZ mo ad (gm_Q below D cI cZ mo ad (pI Q t) args s) t2 28 [(0, .ref mo), (2, .int r2), (3, .int x3), (4, .int z28.1), (5, .int z28.2)] [] := by
      intro n28
      induction n28 with
      | zero => intro z28 h; exact h.elim
      | succ n28 ih28 =>
        intro z28 h
        have h : w_loudness_L28 Q r2 t2 x3 (lp (w_loudness_L28 Q r2 t2 x3) n28) z28 := h
        unfold w_loudness_L28 at h
        refine gm_iload C 4 dX12_loudness_28 rfl ?_
        refine gm_aload C 0 dX12_loudness_30 rfl ?_
        refine gm_getA C 30 (by decide) rfl wf_93 rfl dX12_loudness_31 ?_
        refine gm_iloadn C 1 2 dX12_loudness_34 rfl rfl ?_
        obtain ⟨g4, h⟩ := h
        refine gm_iald C 30 (by decide) rfl g4 dX12_loudness_35 ?_
        refine gm_icmp_gt C 128 dX12_loudness_36 (by decide) (fun c36_2 => ?_) (fun c36_2 => ?_)
        · have h := h.1 c36_2
          refine gm_iload C 3 dX12_loudness_128 rfl ?_
          exact gm_iret C E dX12_loudness_130 ⟨_, rfl, h⟩
        · have h := h.2 c36_2
          refine gm_iload C 4 dX12_loudness_39 rfl ?_
          refine gm_bipush C 16 dX12_loudness_41 (by decide) ?_
          refine gm_irem C dX12_loudness_43 (by decide) ?_
          refine gm_aload C 0 dX12_loudness_44 rfl ?_
          refine gm_getA C 6 (by decide) rfl wf_25 rfl dX12_loudness_45 ?_
          refine gm_iloadn C 2 3 dX12_loudness_48 rfl rfl ?_
          refine gm_iload C 4 dX12_loudness_49 rfl ?_
          refine gm_bipush C 16 dX12_loudness_51 (by decide) ?_
          refine gm_idiv C dX12_loudness_53 (by decide) ?_
          refine gm_callS C (y := yX12_at) (as := [.int x3, .int (z28.2 / 16)]) rfl (by decide) (by decide) (c_at l D cI cZ mo ad x3 (z28.2 / 16) t2) hy_at rfl wl_139 cu_at dX12_loudness_54 (Nat.le_of_ble_eq_true rfl) (kP ?_)
          obtain ⟨g5, h⟩ := h
          refine gm_iald C 6 (by decide) rfl g5 dX12_loudness_57 ?_
          obtain ⟨g7, h⟩ := h
          have k89 : ∀ x6 : Int32, x6 = (if (¬ ((mgA t2 6 (v_at x3 (z28.2 / 16))) ≤ (mRem z28.2 16))) ∧ (¬ ((mgA t2 11 (v_place x3 (z28.2 / 16) (mRem z28.2 16))) = (-1))) then 1 else 0) → GM p l e (rmD 7) s m args below meth c 7 D cI cZ mo ad (gm_Q below D cI cZ mo ad (pI Q t) args s) t2 89 [(0, .ref mo), (2, .int r2), (3, .int x3), (4, .int z28.1), (5, .int z28.2)] [.int x6] := by
            intro x6 ex6
            have h := h x6 ex6
            refine gm_istore C [(6, .int x6), (0, .ref mo), (2, .int r2), (3, .int x3), (4, .int z28.1), (5, .int z28.2)] dX12_loudness_89 (by decide) rfl ?_
            refine gm_iload C 0 dX12_loudness_91 rfl ?_
            obtain ⟨g9, h⟩ := h
            have k120 : ∀ x8 : Int32, x8 = (if x6 = 0 then z28.1 else (mgA t2 11 (v_place x3 (z28.2 / 16) (mRem z28.2 16)))) → GM p l e (rmD 7) s m args below meth c 7 D cI cZ mo ad (gm_Q below D cI cZ mo ad (pI Q t) args s) t2 120 [(0, .ref mo), (2, .int r2), (3, .int x3), (5, .int z28.2)] [.int x8] := by
              intro x8 ex8
              have h := h x8 ex8
              refine gm_istore C [(4, .int x8), (0, .ref mo), (2, .int r2), (3, .int x3), (5, .int z28.2)] dX12_loudness_120 (by decide) rfl ?_
              refine gm_iinc C 4 (z28.2 + 1) [(5, .int (z28.2 + 1)), (4, .int x8), (0, .ref mo), (2, .int r2), (3, .int x3)] dX12_loudness_122 rfl rfl (by decide) rfl ?_
              refine gm_goto C 28 dX12_loudness_125 (by decide) ?_
              refine gm_sub [2, 3, 4, 1, 0] rfl ?_
              have h9 := ih28 (x8, (z28.2 + 1)) h
              exact h9
            refine gm_if_eq C 118 dX12_loudness_93 (by decide) (fun c93_5 => ?_) (fun c93_5 => ?_)
            · refine gm_iload C 4 dX12_loudness_118 rfl ?_
              refine gm_sub [1, 2, 3, 5] rfl ?_
              exact k120 _ ((if_pos c93_5).symm)
            · refine gm_aload C 1 dX12_loudness_96 rfl ?_
              refine gm_getA C 11 (by decide) rfl wf_41 rfl dX12_loudness_97 ?_
              refine gm_iloadn C 3 3 dX12_loudness_100 rfl rfl ?_
              refine gm_iload C 5 dX12_loudness_101 rfl ?_
              refine gm_bipush C 16 dX12_loudness_103 (by decide) ?_
              refine gm_idiv C dX12_loudness_105 (by decide) ?_
              refine gm_iload C 5 dX12_loudness_106 rfl ?_
              refine gm_bipush C 16 dX12_loudness_108 (by decide) ?_
              refine gm_irem C dX12_loudness_110 (by decide) ?_
              refine gm_callS C (y := yX12_place) (as := [.int x3, .int (z28.2 / 16), .int (mRem z28.2 16)]) rfl (by decide) (by decide) (c_place l D cI cZ mo ad x3 (z28.2 / 16) (mRem z28.2 16) t2) hy_place rfl wl_151 cu_place dX12_loudness_111 (Nat.le_of_ble_eq_true rfl) (kP ?_)
              refine gm_iald C 11 (by decide) rfl (g9 c93_5) dX12_loudness_114 ?_
              refine gm_goto C 120 dX12_loudness_115 (by decide) ?_
              refine gm_sub [1, 2, 3, 5] rfl ?_
              exact k120 _ ((if_neg c93_5).symm)
          refine gm_icmp_ge C 88 dX12_loudness_58 (by decide) (fun c58_3 => ?_) (fun c58_3 => ?_)
          · refine gm_iconst C 0 dX12_loudness_88 (by decide) ?_
            exact k89 _ ((if_neg (fun q0 => q0.1 c58_3)).symm)
          · refine gm_aload C 0 dX12_loudness_61 rfl ?_
            refine gm_getA C 11 (by decide) rfl wf_41 rfl dX12_loudness_62 ?_
            refine gm_iloadn C 2 3 dX12_loudness_65 rfl rfl ?_
            refine gm_iload C 4 dX12_loudness_66 rfl ?_
            refine gm_bipush C 16 dX12_loudness_68 (by decide) ?_
            refine gm_idiv C dX12_loudness_70 (by decide) ?_
            refine gm_iload C 4 dX12_loudness_71 rfl ?_
            refine gm_bipush C 16 dX12_loudness_73 (by decide) ?_
            refine gm_irem C dX12_loudness_75 (by decide) ?_
            refine gm_callS C (y := yX12_place) (as := [.int x3, .int (z28.2 / 16), .int (mRem z28.2 16)]) rfl (by decide) (by decide) (c_place l D cI cZ mo ad x3 (z28.2 / 16) (mRem z28.2 16) t2) hy_place rfl wl_151 cu_place dX12_loudness_76 (Nat.le_of_ble_eq_true rfl) (kP ?_)
            refine gm_iald C 11 (by decide) rfl (g7 c58_3) dX12_loudness_79 ?_
            refine gm_iconst C (-1) dX12_loudness_80 (by decide) ?_
            refine gm_icmp_eq C 88 dX12_loudness_81 (by decide) (fun c81_4 => ?_) (fun c81_4 => ?_)
            · refine gm_iconst C 0 dX12_loudness_88 (by decide) ?_
              exact k89 _ ((if_neg (fun q0 => (fun q1 => q1 c81_4) q0.2)).symm)
            · refine gm_iconst C 1 dX12_loudness_84 (by decide) ?_
              refine gm_goto C 89 dX12_loudness_85 (by decide) ?_
              exact k89 _ ((if_pos ⟨c58_3, c81_4⟩).symm)
    exact k28 n28 (2, 0) h
  · have h := h.1 c5_1
    refine gm_iconst C 0 dX12_loudness_8 (by decide) ?_
    exact gm_iret C E dX12_loudness_9 ⟨_, rfl, h⟩
def w_setPaper (a1 a2 a3 : Int32) (t : MS) (Q : MS → Prop) : Prop := ∀ x1 : Int32, x1 = (if (¬ ((v_in a1 40 400) = 0)) ∧ ((¬ ((v_in a2 1 6) = 0)) ∧ (¬ ((v_in a3 0 20000) = 0))) then 1 else 0) → w_goes x1 1 1 t (fun r2 t2 => ∃ J62 : MS → Prop, (∀ t3 : MS, J62 t3 → (Q t3)) ∧ (((r2 = 0) → J62 t2) ∧ (¬ (r2 = 0) → ∀ t4 : MS, t4 = msI t2 21 a1 → ∀ t5 : MS, t5 = msI t4 22 a2 → ∀ t6 : MS, t6 = msI t5 23 a3 → J62 t6)))
set_option maxRecDepth 20000 in
set_option maxHeartbeats 2000000 in
theorem c_setPaper (l : Launch) (D : va_G) (cI cZ : ClassId) (mo : Nat) (ad : Nat → Nat) (a1 a2 a3 : Int32) (t : MS) (Q : MS → Prop) (h : w_setPaper a1 a2 a3 t Q) : MetM l yX12_setPaper cX12_setPaper 4 none 1 [.ref mo, .int a1, .int a2, .int a3] (pV Q) D cI cZ mo ad t := by
  unfold w_setPaper at h
  refine gm_start (by decide) rfl (Nat.le_of_ble_eq_true rfl) (fun p e s m args below meth c C E => ?_)
  refine gm_aload C 0 dX12_setPaper_0 rfl ?_
  refine gm_iloadn C 1 1 dX12_setPaper_1 rfl rfl ?_
  refine gm_bipush C 40 dX12_setPaper_2 (by decide) ?_
  refine gm_sipush C 400 dX12_setPaper_4 (by decide) ?_
  refine gm_callS C (y := yX12_in) (as := [.int a1, .int 40, .int 400]) rfl (by decide) (by decide) (c_in l D cI cZ mo ad a1 40 400 t) hy_in rfl wl_135 cu_in dX12_setPaper_7 (Nat.le_of_ble_eq_true rfl) (kP ?_)
  have k39 : ∀ x1 : Int32, x1 = (if (¬ ((v_in a1 40 400) = 0)) ∧ ((¬ ((v_in a2 1 6) = 0)) ∧ (¬ ((v_in a3 0 20000) = 0))) then 1 else 0) → GM p l e (rmD 1) s m args below meth c 4 D cI cZ mo ad (gm_Q below D cI cZ mo ad (pV Q t) args s) t 39 [(0, .ref mo), (1, .int a1), (2, .int a2), (3, .int a3)] [.int x1, .ref mo] := by
    intro x1 ex1
    have h := h x1 ex1
    refine gm_iconst C 1 dX12_setPaper_39 (by decide) ?_
    refine gm_iconst C 1 dX12_setPaper_40 (by decide) ?_
    refine gm_callV C (y := yX12_goes) (as := [.int x1, .int 1, .int 1]) rfl (by decide) (by decide) (c_goes l D cI cZ mo ad x1 1 1 t _ h) hy_goes rfl wl_165 cu_goes dX12_setPaper_41 (Nat.le_of_ble_eq_true rfl) (kI (fun r2 t2 h => ?_))
    obtain ⟨J62, hJ62, h⟩ := h
    have k62 : ∀ t3 : MS, J62 t3 → GM p l e (rmD 1) s m args below meth c 4 D cI cZ mo ad (gm_Q below D cI cZ mo ad (pV Q t) args s) t3 62 [] [] := by
      intro t3 h
      have h := hJ62 t3 h
      exact gm_vret C E dX12_setPaper_62 ⟨rfl, h⟩
    refine gm_if_eq C 62 dX12_setPaper_44 (by decide) (fun c44_4 => ?_) (fun c44_4 => ?_)
    · have h := h.1 c44_4
      refine gm_sub [] rfl ?_
      exact k62 t2 h
    · have h := h.2 c44_4
      refine gm_aload C 0 dX12_setPaper_47 rfl ?_
      refine gm_iloadn C 1 1 dX12_setPaper_48 rfl rfl ?_
      refine gm_putI C 21 (by decide) rfl wf_68 rfl rfl (by decide +kernel) dX12_setPaper_49 ?_
      refine gm_nameT (fun t4 et4 => ?_)
      have h := h t4 et4
      refine gm_aload C 0 dX12_setPaper_52 rfl ?_
      refine gm_iloadn C 2 2 dX12_setPaper_53 rfl rfl ?_
      refine gm_putI C 22 (by decide) rfl wf_72 rfl rfl (by decide +kernel) dX12_setPaper_54 ?_
      refine gm_nameT (fun t5 et5 => ?_)
      have h := h t5 et5
      refine gm_aload C 0 dX12_setPaper_57 rfl ?_
      refine gm_iloadn C 3 3 dX12_setPaper_58 rfl rfl ?_
      refine gm_putI C 23 (by decide) rfl wf_75 rfl rfl (by decide +kernel) dX12_setPaper_59 ?_
      refine gm_nameT (fun t6 et6 => ?_)
      have h := h t6 et6
      refine gm_sub [] rfl ?_
      exact k62 t6 h
  refine gm_if_eq C 38 dX12_setPaper_10 (by decide) (fun c10_1 => ?_) (fun c10_1 => ?_)
  · refine gm_iconst C 0 dX12_setPaper_38 (by decide) ?_
    exact k39 _ ((if_neg (fun q0 => q0.1 c10_1)).symm)
  · refine gm_iloadn C 2 2 dX12_setPaper_13 rfl rfl ?_
    refine gm_iconst C 1 dX12_setPaper_14 (by decide) ?_
    refine gm_bipush C 6 dX12_setPaper_15 (by decide) ?_
    refine gm_callS C (y := yX12_in) (as := [.int a2, .int 1, .int 6]) rfl (by decide) (by decide) (c_in l D cI cZ mo ad a2 1 6 t) hy_in rfl wl_135 cu_in dX12_setPaper_17 (Nat.le_of_ble_eq_true rfl) (kP ?_)
    refine gm_if_eq C 38 dX12_setPaper_20 (by decide) (fun c20_2 => ?_) (fun c20_2 => ?_)
    · refine gm_iconst C 0 dX12_setPaper_38 (by decide) ?_
      exact k39 _ ((if_neg (fun q0 => (fun q1 => q1.1 c20_2) q0.2)).symm)
    · refine gm_iloadn C 3 3 dX12_setPaper_23 rfl rfl ?_
      refine gm_iconst C 0 dX12_setPaper_24 (by decide) ?_
      refine gm_sipush C 20000 dX12_setPaper_25 (by decide) ?_
      refine gm_callS C (y := yX12_in) (as := [.int a3, .int 0, .int 20000]) rfl (by decide) (by decide) (c_in l D cI cZ mo ad a3 0 20000 t) hy_in rfl wl_135 cu_in dX12_setPaper_28 (Nat.le_of_ble_eq_true rfl) (kP ?_)
      refine gm_if_eq C 38 dX12_setPaper_31 (by decide) (fun c31_3 => ?_) (fun c31_3 => ?_)
      · refine gm_iconst C 0 dX12_setPaper_38 (by decide) ?_
        exact k39 _ ((if_neg (fun q0 => (fun q1 => (fun q2 => q2 c31_3) q1.2) q0.2)).symm)
      · refine gm_iconst C 1 dX12_setPaper_34 (by decide) ?_
        refine gm_goto C 39 dX12_setPaper_35 (by decide) ?_
        exact k39 _ ((if_pos ⟨c10_1, ⟨c20_2, c31_3⟩⟩).symm)
def w_canDraw_L15 (a1 : Int32) (Q : Int32 → MS → Prop) (K15 : (Int32 × Int32 × MS) → Prop) (z15 : Int32 × Int32 × MS) : Prop := (((mgI z15.2.2 0) ≤ z15.2.1) → (gb z15.1) ∧ Q z15.1 z15.2.2) ∧ (¬ ((mgI z15.2.2 0) ≤ z15.2.1) → ∃ J41 : Int32 → MS → Prop, (∀ x3 : Int32, ∀ t4 : MS, J41 x3 t4 → (K15 (x3, (z15.2.1 + 1), t4))) ∧ ∃ J40 : MS → Prop, (∀ t5 : MS, J40 t5 → (J41 0 t5)) ∧ (((z15.1 = 0) → J40 z15.2.2) ∧ (¬ (z15.1 = 0) → w_isRightIn a1 z15.2.1 z15.2.2 (fun r6 t6 => ((r6 = 0) → J40 t6) ∧ (¬ (r6 = 0) → J41 1 t6)))))
def w_canDraw (a1 : Int32) (t : MS) (Q : Int32 → MS → Prop) : Prop := ∀ x1 : Int32, x1 = (if ¬ ((mgI t 0) ≤ 0) then 1 else 0) → ∃ n, lp (w_canDraw_L15 a1 Q) n (x1, 0, t)
set_option maxRecDepth 20000 in
set_option maxHeartbeats 2000000 in
theorem c_canDraw (l : Launch) (D : va_G) (cI cZ : ClassId) (mo : Nat) (ad : Nat → Nat) (a1 : Int32) (t : MS) (Q : Int32 → MS → Prop) (h : w_canDraw a1 t Q) : MetM l yX12_canDraw cX12_canDraw 4 (some .boolean) 5 [.ref mo, .int a1] (pI Q) D cI cZ mo ad t := by
  unfold w_canDraw at h
  refine gm_start (by decide) rfl (Nat.le_of_ble_eq_true rfl) (fun p e s m args below meth c C E => ?_)
  refine gm_aload C 0 dX12_canDraw_0 rfl ?_
  refine gm_getI C 0 (by decide) rfl wf_132 rfl dX12_canDraw_1 ?_
  have k12 : ∀ x1 : Int32, x1 = (if ¬ ((mgI t 0) ≤ 0) then 1 else 0) → GM p l e (rmD 5) s m args below meth c 4 D cI cZ mo ad (gm_Q below D cI cZ mo ad (pI Q t) args s) t 12 [(0, .ref mo), (1, .int a1)] [.int x1] := by
    intro x1 ex1
    have h := h x1 ex1
    refine gm_istoren C 2 [(2, .int x1), (0, .ref mo), (1, .int a1)] dX12_canDraw_12 rfl (by decide) rfl ?_
    refine gm_iconst C 0 dX12_canDraw_13 (by decide) ?_
    refine gm_istoren C 3 [(3, .int 0), (2, .int x1), (0, .ref mo), (1, .int a1)] dX12_canDraw_14 rfl (by decide) rfl ?_
    refine gm_sub [2, 3, 1, 0] rfl ?_
    obtain ⟨n15, h⟩ := h
    have k15 : ∀ (n15 : Nat) (z15 : Int32 × Int32 × MS), lp (w_canDraw_L15 a1 Q) n15 z15 → GM p l e (rmD 5) s m args below meth c 4 D cI cZ mo ad (gm_Q below D cI cZ mo ad (pI Q t) args s) z15.2.2 15 [(0, .ref mo), (1, .int a1), (2, .int z15.1), (3, .int z15.2.1)] [] := by
      intro n15
      induction n15 with
      | zero => intro z15 h; exact h.elim
      | succ n15 ih15 =>
        intro z15 h
        have h : w_canDraw_L15 a1 Q (lp (w_canDraw_L15 a1 Q) n15) z15 := h
        unfold w_canDraw_L15 at h
        refine gm_iloadn C 3 3 dX12_canDraw_15 rfl rfl ?_
        refine gm_aload C 0 dX12_canDraw_16 rfl ?_
        refine gm_getI C 0 (by decide) rfl wf_132 rfl dX12_canDraw_17 ?_
        refine gm_icmp_ge C 48 dX12_canDraw_20 (by decide) (fun c20_2 => ?_) (fun c20_2 => ?_)
        · have h := h.1 c20_2
          refine gm_iloadn C 2 2 dX12_canDraw_48 rfl rfl ?_
          obtain ⟨g2, h⟩ := h
          exact gm_zret C E g2 dX12_canDraw_49 ⟨_, rfl, h⟩
        · have h := h.2 c20_2
          refine gm_iloadn C 2 2 dX12_canDraw_23 rfl rfl ?_
          obtain ⟨J41, hJ41, h⟩ := h
          have k41 : ∀ x3 : Int32, ∀ t4 : MS, J41 x3 t4 → GM p l e (rmD 5) s m args below meth c 4 D cI cZ mo ad (gm_Q below D cI cZ mo ad (pI Q t) args s) t4 41 [(0, .ref mo), (1, .int a1), (3, .int z15.2.1)] [.int x3] := by
            intro x3 t4 h
            have h := hJ41 x3 t4 h
            refine gm_istoren C 2 [(2, .int x3), (0, .ref mo), (1, .int a1), (3, .int z15.2.1)] dX12_canDraw_41 rfl (by decide) rfl ?_
            refine gm_iinc C 3 (z15.2.1 + 1) [(3, .int (z15.2.1 + 1)), (2, .int x3), (0, .ref mo), (1, .int a1)] dX12_canDraw_42 rfl rfl (by decide) rfl ?_
            refine gm_goto C 15 dX12_canDraw_45 (by decide) ?_
            refine gm_sub [2, 3, 1, 0] rfl ?_
            have h9 := ih15 (x3, (z15.2.1 + 1), t4) h
            exact h9
          obtain ⟨J40, hJ40, h⟩ := h
          have k40 : ∀ t5 : MS, J40 t5 → GM p l e (rmD 5) s m args below meth c 4 D cI cZ mo ad (gm_Q below D cI cZ mo ad (pI Q t) args s) t5 40 [(0, .ref mo), (1, .int a1), (3, .int z15.2.1)] [] := by
            intro t5 h
            have h := hJ40 t5 h
            refine gm_iconst C 0 dX12_canDraw_40 (by decide) ?_
            exact k41 0 t5 h
          refine gm_if_eq C 40 dX12_canDraw_24 (by decide) (fun c24_3 => ?_) (fun c24_3 => ?_)
          · have h := h.1 c24_3
            refine gm_sub [0, 1, 3] rfl ?_
            exact k40 z15.2.2 h
          · have h := h.2 c24_3
            refine gm_aload C 0 dX12_canDraw_27 rfl ?_
            refine gm_iloadn C 1 1 dX12_canDraw_28 rfl rfl ?_
            refine gm_iloadn C 3 3 dX12_canDraw_29 rfl rfl ?_
            refine gm_callV C (y := yX12_isRightIn) (as := [.int a1, .int z15.2.1]) rfl (by decide) (by decide) (c_isRightIn l D cI cZ mo ad a1 z15.2.1 z15.2.2 _ h) hy_isRightIn rfl wl_201 cu_isRightIn dX12_canDraw_30 (Nat.le_of_ble_eq_true rfl) (kI (fun r6 t6 h => ?_))
            refine gm_if_eq C 40 dX12_canDraw_33 (by decide) (fun c33_4 => ?_) (fun c33_4 => ?_)
            · have h := h.1 c33_4
              refine gm_sub [0, 1, 3] rfl ?_
              exact k40 t6 h
            · have h := h.2 c33_4
              refine gm_iconst C 1 dX12_canDraw_36 (by decide) ?_
              refine gm_goto C 41 dX12_canDraw_37 (by decide) ?_
              refine gm_sub [0, 1, 3] rfl ?_
              exact k41 1 t6 h
    exact k15 n15 (x1, 0, t) h
  refine gm_if_le C 11 dX12_canDraw_4 (by decide) (fun c4_1 => ?_) (fun c4_1 => ?_)
  · refine gm_iconst C 0 dX12_canDraw_11 (by decide) ?_
    exact k12 _ ((if_neg (fun q0 => q0 c4_1)).symm)
  · refine gm_iconst C 1 dX12_canDraw_7 (by decide) ?_
    refine gm_goto C 12 dX12_canDraw_8 (by decide) ?_
    exact k12 _ ((if_pos c4_1).symm)
def v_isNewMetre (a1 : Int32) (t : MS) : Int32 := (if (a1 = 0) ∨ ((¬ ((mgA t 1 a1) = (mgA t 1 (a1 - 1)))) ∨ (¬ ((mgA t 2 a1) = (mgA t 2 (a1 - 1))))) then 1 else 0)
def d_isNewMetre (a1 : Int32) (t : MS) : Prop := ((¬ (a1 = 0)) → (mIn 1 a1)) ∧ ((¬ (a1 = 0)) → (mIn 1 (a1 - 1))) ∧ ((¬ (a1 = 0)) → ((mgA t 1 a1) = (mgA t 1 (a1 - 1))) → (mIn 2 a1)) ∧ ((¬ (a1 = 0)) → ((mgA t 1 a1) = (mgA t 1 (a1 - 1))) → (mIn 2 (a1 - 1)))
theorem vb_isNewMetre {a1 : Int32} {t : MS} : gb (v_isNewMetre a1 t) := by unfold v_isNewMetre; split <;> first | exact Or.inr rfl | exact Or.inl rfl
set_option maxRecDepth 20000 in
theorem c_isNewMetre (l : Launch) (D : va_G) (cI cZ : ClassId) (mo : Nat) (ad : Nat → Nat) (a1 : Int32) (t : MS) (h : d_isNewMetre a1 t) : MetM l yX12_isNewMetre cX12_isNewMetre 2 (some .boolean) 0 [.ref mo, .int a1] (pI (fun r t' => (v_isNewMetre a1 t) = r ∧ t = t')) D cI cZ mo ad t := by
  obtain ⟨g1, g2, g3, g4⟩ := h
  refine gm_start (by decide) rfl (Nat.le_of_ble_eq_true rfl) (fun p e s m args below meth c C E => ?_)
  refine gm_iloadn C 1 1 dX12_isNewMetre_0 rfl rfl ?_
  refine gm_if_eq C 38 dX12_isNewMetre_1 (by decide) (fun c1_1 => ?_) (fun c1_1 => ?_)
  · refine gm_iconst C 1 dX12_isNewMetre_38 (by decide) ?_
    refine gm_goto C 43 dX12_isNewMetre_39 (by decide) ?_
    exact gm_zret C E (Or.inr rfl) dX12_isNewMetre_43 ⟨_, rfl, (Eq.symm ((if_pos (Or.inl c1_1)).symm)), rfl⟩
  · refine gm_aload C 0 dX12_isNewMetre_4 rfl ?_
    refine gm_getA C 1 (by decide) rfl wf_7 rfl dX12_isNewMetre_5 ?_
    refine gm_iloadn C 1 1 dX12_isNewMetre_8 rfl rfl ?_
    refine gm_iald C 1 (by decide) rfl (g1 c1_1) dX12_isNewMetre_9 ?_
    refine gm_aload C 0 dX12_isNewMetre_10 rfl ?_
    refine gm_getA C 1 (by decide) rfl wf_7 rfl dX12_isNewMetre_11 ?_
    refine gm_iloadn C 1 1 dX12_isNewMetre_14 rfl rfl ?_
    refine gm_iconst C 1 dX12_isNewMetre_15 (by decide) ?_
    refine gm_isub C dX12_isNewMetre_16 ?_
    refine gm_iald C 1 (by decide) rfl (g2 c1_1) dX12_isNewMetre_17 ?_
    refine gm_icmp_ne C 38 dX12_isNewMetre_18 (by decide) (fun c18_2 => ?_) (fun c18_2 => ?_)
    · refine gm_iconst C 1 dX12_isNewMetre_38 (by decide) ?_
      refine gm_goto C 43 dX12_isNewMetre_39 (by decide) ?_
      exact gm_zret C E (Or.inr rfl) dX12_isNewMetre_43 ⟨_, rfl, (Eq.symm ((if_pos (Or.inr (Or.inl c18_2))).symm)), rfl⟩
    · refine gm_aload C 0 dX12_isNewMetre_21 rfl ?_
      refine gm_getA C 2 (by decide) rfl wf_13 rfl dX12_isNewMetre_22 ?_
      refine gm_iloadn C 1 1 dX12_isNewMetre_25 rfl rfl ?_
      refine gm_iald C 2 (by decide) rfl (g3 c1_1 c18_2) dX12_isNewMetre_26 ?_
      refine gm_aload C 0 dX12_isNewMetre_27 rfl ?_
      refine gm_getA C 2 (by decide) rfl wf_13 rfl dX12_isNewMetre_28 ?_
      refine gm_iloadn C 1 1 dX12_isNewMetre_31 rfl rfl ?_
      refine gm_iconst C 1 dX12_isNewMetre_32 (by decide) ?_
      refine gm_isub C dX12_isNewMetre_33 ?_
      refine gm_iald C 2 (by decide) rfl (g4 c1_1 c18_2) dX12_isNewMetre_34 ?_
      refine gm_icmp_eq C 42 dX12_isNewMetre_35 (by decide) (fun c35_3 => ?_) (fun c35_3 => ?_)
      · refine gm_iconst C 0 dX12_isNewMetre_42 (by decide) ?_
        exact gm_zret C E (Or.inl rfl) dX12_isNewMetre_43 ⟨_, rfl, (Eq.symm ((if_neg (fun q0 => Or.elim q0 c1_1 (fun q1 => Or.elim q1 (fun r => r c18_2) (fun q2 => q2 c35_3)))).symm)), rfl⟩
      · refine gm_iconst C 1 dX12_isNewMetre_38 (by decide) ?_
        refine gm_goto C 43 dX12_isNewMetre_39 (by decide) ?_
        exact gm_zret C E (Or.inr rfl) dX12_isNewMetre_43 ⟨_, rfl, (Eq.symm ((if_pos (Or.inr (Or.inr c35_3))).symm)), rfl⟩
def w_isEdge_L5 (a1 : Int32) (a2 : Int32) (t : MS) (Q : Int32 → MS → Prop) (K5 : (Int32 × Int32) → Prop) (z5 : Int32 × Int32) : Prop := (((mgI t 0) ≤ z5.2) → (gb z5.1) ∧ Q z5.1 t) ∧ (¬ ((mgI t 0) ≤ z5.2) → ((a2 = 0) → mIn 4 z5.2) ∧ ((¬ (a2 = 0)) → mIn 5 z5.2) ∧ ((¬ (a2 = 0)) → (¬ ((mgA t 5 z5.2) ≤ 0)) → mIn 4 z5.2) ∧ ((¬ (a2 = 0)) → (¬ ((mgA t 5 z5.2) ≤ 0)) → mIn 5 z5.2) ∧ ∀ x2 : Int32, x2 = (if ((a2 = 0) ∧ ((mgA t 4 z5.2) = a1)) ∨ ((¬ (a2 = 0)) ∧ ((¬ ((mgA t 5 z5.2) ≤ 0)) ∧ ((((mgA t 4 z5.2) + 1) - (mgA t 5 z5.2)) = a1))) then 1 else 0) → ((z5.1 = 0) → mIn 4 z5.2) ∧ ∀ x7 : Int32, x7 = (if (¬ (z5.1 = 0)) ∨ ((¬ ((mgA t 4 z5.2) = (-1))) ∧ (¬ (x2 = 0))) then 1 else 0) → K5 (x7, (z5.2 + 1)))
def w_isEdge (a1 a2 : Int32) (t : MS) (Q : Int32 → MS → Prop) : Prop := ∃ n, lp (w_isEdge_L5 a1 a2 t Q) n (0, 0)
set_option maxRecDepth 20000 in
set_option maxHeartbeats 2000000 in
theorem c_isEdge (l : Launch) (D : va_G) (cI cZ : ClassId) (mo : Nat) (ad : Nat → Nat) (a1 a2 : Int32) (t : MS) (Q : Int32 → MS → Prop) (h : w_isEdge a1 a2 t Q) : MetM l yX12_isEdge cX12_isEdge 6 (some .boolean) 0 [.ref mo, .int a1, .int a2] (pI Q) D cI cZ mo ad t := by
  unfold w_isEdge at h
  refine gm_start (by decide) rfl (Nat.le_of_ble_eq_true rfl) (fun p e s m args below meth c C E => ?_)
  refine gm_iconst C 0 dX12_isEdge_0 (by decide) ?_
  refine gm_istoren C 3 [(3, .int 0), (0, .ref mo), (1, .int a1), (2, .int a2)] dX12_isEdge_1 rfl (by decide) rfl ?_
  refine gm_iconst C 0 dX12_isEdge_2 (by decide) ?_
  refine gm_istore C [(4, .int 0), (3, .int 0), (0, .ref mo), (1, .int a1), (2, .int a2)] dX12_isEdge_3 (by decide) rfl ?_
  refine gm_sub [2, 3, 4, 1, 0] rfl ?_
  obtain ⟨n5, h⟩ := h
  have k5 : ∀ (n5 : Nat) (z5 : Int32 × Int32), lp (w_isEdge_L5 a1 a2 t Q) n5 z5 → GM p l e (rmD 0) s m args below meth c 6 D cI cZ mo ad (gm_Q below D cI cZ mo ad (pI Q t) args s) t 5 [(0, .ref mo), (1, .int a1), (2, .int a2), (3, .int z5.1), (4, .int z5.2)] [] := by
    intro n5
    induction n5 with
    | zero => intro z5 h; exact h.elim
    | succ n5 ih5 =>
      intro z5 h
      have h : w_isEdge_L5 a1 a2 t Q (lp (w_isEdge_L5 a1 a2 t Q) n5) z5 := h
      unfold w_isEdge_L5 at h
      refine gm_iload C 4 dX12_isEdge_5 rfl ?_
      refine gm_aload C 0 dX12_isEdge_7 rfl ?_
      refine gm_getI C 0 (by decide) rfl wf_132 rfl dX12_isEdge_8 ?_
      refine gm_icmp_ge C 107 dX12_isEdge_11 (by decide) (fun c11_1 => ?_) (fun c11_1 => ?_)
      · have h := h.1 c11_1
        refine gm_iloadn C 3 3 dX12_isEdge_107 rfl rfl ?_
        obtain ⟨g1, h⟩ := h
        exact gm_zret C E g1 dX12_isEdge_108 ⟨_, rfl, h⟩
      · have h := h.2 c11_1
        refine gm_iloadn C 2 2 dX12_isEdge_14 rfl rfl ?_
        obtain ⟨g3, h⟩ := h
        obtain ⟨g4, h⟩ := h
        obtain ⟨g5, h⟩ := h
        obtain ⟨g6, h⟩ := h
        have k73 : ∀ x2 : Int32, x2 = (if ((a2 = 0) ∧ ((mgA t 4 z5.2) = a1)) ∨ ((¬ (a2 = 0)) ∧ ((¬ ((mgA t 5 z5.2) ≤ 0)) ∧ ((((mgA t 4 z5.2) + 1) - (mgA t 5 z5.2)) = a1))) then 1 else 0) → GM p l e (rmD 0) s m args below meth c 6 D cI cZ mo ad (gm_Q below D cI cZ mo ad (pI Q t) args s) t 73 [(0, .ref mo), (1, .int a1), (2, .int a2), (3, .int z5.1), (4, .int z5.2)] [.int x2] := by
          intro x2 ex2
          have h := h x2 ex2
          refine gm_istore C [(5, .int x2), (0, .ref mo), (1, .int a1), (2, .int a2), (3, .int z5.1), (4, .int z5.2)] dX12_isEdge_73 (by decide) rfl ?_
          refine gm_iloadn C 4 3 dX12_isEdge_75 rfl rfl ?_
          obtain ⟨g8, h⟩ := h
          have k100 : ∀ x7 : Int32, x7 = (if (¬ (z5.1 = 0)) ∨ ((¬ ((mgA t 4 z5.2) = (-1))) ∧ (¬ (x2 = 0))) then 1 else 0) → GM p l e (rmD 0) s m args below meth c 6 D cI cZ mo ad (gm_Q below D cI cZ mo ad (pI Q t) args s) t 100 [(0, .ref mo), (1, .int a1), (2, .int a2), (4, .int z5.2)] [.int x7] := by
            intro x7 ex7
            have h := h x7 ex7
            refine gm_istoren C 3 [(3, .int x7), (0, .ref mo), (1, .int a1), (2, .int a2), (4, .int z5.2)] dX12_isEdge_100 rfl (by decide) rfl ?_
            refine gm_iinc C 4 (z5.2 + 1) [(4, .int (z5.2 + 1)), (3, .int x7), (0, .ref mo), (1, .int a1), (2, .int a2)] dX12_isEdge_101 rfl rfl (by decide) rfl ?_
            refine gm_goto C 5 dX12_isEdge_104 (by decide) ?_
            refine gm_sub [2, 3, 4, 1, 0] rfl ?_
            have h9 := ih5 (x7, (z5.2 + 1)) h
            exact h9
          refine gm_if_ne C 95 dX12_isEdge_76 (by decide) (fun c76_6 => ?_) (fun c76_6 => ?_)
          · refine gm_iconst C 1 dX12_isEdge_95 (by decide) ?_
            refine gm_goto C 100 dX12_isEdge_96 (by decide) ?_
            refine gm_sub [1, 2, 3, 5] rfl ?_
            exact k100 _ ((if_pos (Or.inl c76_6)).symm)
          · refine gm_aload C 1 dX12_isEdge_79 rfl ?_
            refine gm_getA C 4 (by decide) rfl wf_19 rfl dX12_isEdge_80 ?_
            refine gm_iload C 5 dX12_isEdge_83 rfl ?_
            refine gm_iald C 4 (by decide) rfl (g8 c76_6) dX12_isEdge_85 ?_
            refine gm_iconst C (-1) dX12_isEdge_86 (by decide) ?_
            refine gm_icmp_eq C 99 dX12_isEdge_87 (by decide) (fun c87_7 => ?_) (fun c87_7 => ?_)
            · refine gm_iconst C 0 dX12_isEdge_99 (by decide) ?_
              refine gm_sub [1, 2, 3, 5] rfl ?_
              exact k100 _ ((if_neg (fun q0 => Or.elim q0 (fun r => r c76_6) (fun q1 => q1.1 c87_7))).symm)
            · refine gm_iload C 0 dX12_isEdge_90 rfl ?_
              refine gm_if_eq C 99 dX12_isEdge_92 (by decide) (fun c92_8 => ?_) (fun c92_8 => ?_)
              · refine gm_iconst C 0 dX12_isEdge_99 (by decide) ?_
                refine gm_sub [1, 2, 3, 5] rfl ?_
                exact k100 _ ((if_neg (fun q0 => Or.elim q0 (fun r => r c76_6) (fun q1 => (fun q2 => q2 c92_8) q1.2))).symm)
              · refine gm_iconst C 1 dX12_isEdge_95 (by decide) ?_
                refine gm_goto C 100 dX12_isEdge_96 (by decide) ?_
                refine gm_sub [1, 2, 3, 5] rfl ?_
                exact k100 _ ((if_pos (Or.inr ⟨c87_7, c92_8⟩)).symm)
        refine gm_if_eq C 57 dX12_isEdge_15 (by decide) (fun c15_2 => ?_) (fun c15_2 => ?_)
        · refine gm_aload C 0 dX12_isEdge_57 rfl ?_
          refine gm_getA C 4 (by decide) rfl wf_19 rfl dX12_isEdge_58 ?_
          refine gm_iload C 4 dX12_isEdge_61 rfl ?_
          refine gm_iald C 4 (by decide) rfl (g3 c15_2) dX12_isEdge_63 ?_
          refine gm_iloadn C 1 1 dX12_isEdge_64 rfl rfl ?_
          refine gm_icmp_ne C 72 dX12_isEdge_65 (by decide) (fun c65_3 => ?_) (fun c65_3 => ?_)
          · refine gm_iconst C 0 dX12_isEdge_72 (by decide) ?_
            exact k73 _ ((if_neg (fun q0 => Or.elim q0 (fun r => c65_3 r.2) (fun r => r.1 c15_2))).symm)
          · refine gm_iconst C 1 dX12_isEdge_68 (by decide) ?_
            refine gm_goto C 73 dX12_isEdge_69 (by decide) ?_
            exact k73 _ ((if_pos (Or.inl ⟨c15_2, c65_3⟩)).symm)
        · refine gm_aload C 0 dX12_isEdge_18 rfl ?_
          refine gm_getA C 5 (by decide) rfl wf_22 rfl dX12_isEdge_19 ?_
          refine gm_iload C 4 dX12_isEdge_22 rfl ?_
          refine gm_iald C 5 (by decide) rfl (g4 c15_2) dX12_isEdge_24 ?_
          refine gm_if_le C 53 dX12_isEdge_25 (by decide) (fun c25_4 => ?_) (fun c25_4 => ?_)
          · refine gm_iconst C 0 dX12_isEdge_53 (by decide) ?_
            refine gm_goto C 73 dX12_isEdge_54 (by decide) ?_
            exact k73 _ ((if_neg (fun q0 => Or.elim q0 (fun r => c15_2 r.1) (fun r => (fun q1 => q1.1 c25_4) r.2))).symm)
          · refine gm_aload C 0 dX12_isEdge_28 rfl ?_
            refine gm_getA C 4 (by decide) rfl wf_19 rfl dX12_isEdge_29 ?_
            refine gm_iload C 4 dX12_isEdge_32 rfl ?_
            refine gm_iald C 4 (by decide) rfl (g5 c15_2 c25_4) dX12_isEdge_34 ?_
            refine gm_iconst C 1 dX12_isEdge_35 (by decide) ?_
            refine gm_iadd C dX12_isEdge_36 ?_
            refine gm_aload C 0 dX12_isEdge_37 rfl ?_
            refine gm_getA C 5 (by decide) rfl wf_22 rfl dX12_isEdge_38 ?_
            refine gm_iload C 4 dX12_isEdge_41 rfl ?_
            refine gm_iald C 5 (by decide) rfl (g6 c15_2 c25_4) dX12_isEdge_43 ?_
            refine gm_isub C dX12_isEdge_44 ?_
            refine gm_iloadn C 1 1 dX12_isEdge_45 rfl rfl ?_
            refine gm_icmp_ne C 53 dX12_isEdge_46 (by decide) (fun c46_5 => ?_) (fun c46_5 => ?_)
            · refine gm_iconst C 0 dX12_isEdge_53 (by decide) ?_
              refine gm_goto C 73 dX12_isEdge_54 (by decide) ?_
              exact k73 _ ((if_neg (fun q0 => Or.elim q0 (fun r => c15_2 r.1) (fun r => (fun q1 => c46_5 q1.2) r.2))).symm)
            · refine gm_iconst C 1 dX12_isEdge_49 (by decide) ?_
              refine gm_goto C 73 dX12_isEdge_50 (by decide) ?_
              exact k73 _ ((if_pos (Or.inr ⟨c15_2, ⟨c25_4, c46_5⟩⟩)).symm)
  exact k5 n5 (0, 0) h
def w_parts (a1 : Int32) (t : MS) (Q : Int32 → MS → Prop) : Prop := (d_isNewMetre a1 t) ∧ ∃ J53 : Int32 → MS → Prop, (∀ x2 : Int32, ∀ t3 : MS, J53 x2 t3 → ((gb x2) ∧ Q x2 t3)) ∧ ∃ J48 : MS → Prop, (∀ t5 : MS, J48 t5 → (J53 1 t5)) ∧ ((((v_isNewMetre a1 t) = 0) → mIn 3 a1) ∧ (((v_isNewMetre a1 t) = 0) → ((mgA t 3 a1) = (-1)) → mIn 4 a1) ∧ ((((v_isNewMetre a1 t) = 0) ∧ (((mgA t 3 a1) = (-1)) ∧ ((mgA t 4 a1) = (-1)))) → w_isEdge a1 1 t (fun r8 t8 => ((r8 = 0) → w_isEdge (a1 - 1) 0 t8 (fun r9 t9 => ((r9 = 0) → J53 0 t9) ∧ (¬ (r9 = 0) → J48 t9))) ∧ (¬ (r8 = 0) → J48 t8))) ∧ (¬ (((v_isNewMetre a1 t) = 0) ∧ (((mgA t 3 a1) = (-1)) ∧ ((mgA t 4 a1) = (-1)))) → J48 t))
set_option maxRecDepth 20000 in
set_option maxHeartbeats 2000000 in
theorem c_parts (l : Launch) (D : va_G) (cI cZ : ClassId) (mo : Nat) (ad : Nat → Nat) (a1 : Int32) (t : MS) (Q : Int32 → MS → Prop) (h : w_parts a1 t Q) : MetM l yX12_parts cX12_parts 2 (some .boolean) 1 [.ref mo, .int a1] (pI Q) D cI cZ mo ad t := by
  unfold w_parts at h
  refine gm_start (by decide) rfl (Nat.le_of_ble_eq_true rfl) (fun p e s m args below meth c C E => ?_)
  refine gm_aload C 0 dX12_parts_0 rfl ?_
  refine gm_iloadn C 1 1 dX12_parts_1 rfl rfl ?_
  obtain ⟨g1, h⟩ := h
  refine gm_callV C (y := yX12_isNewMetre) (as := [.int a1]) rfl (by decide) (by decide) (c_isNewMetre l D cI cZ mo ad a1 t g1) hy_isNewMetre rfl wl_245 cu_isNewMetre dX12_parts_2 (Nat.le_of_ble_eq_true rfl) (kP ?_)
  obtain ⟨J53, hJ53, h⟩ := h
  have k53 : ∀ x2 : Int32, ∀ t3 : MS, J53 x2 t3 → GM p l e (rmD 1) s m args below meth c 2 D cI cZ mo ad (gm_Q below D cI cZ mo ad (pI Q t) args s) t3 53 [] [.int x2] := by
    intro x2 t3 h
    have h := hJ53 x2 t3 h
    obtain ⟨g4, h⟩ := h
    exact gm_zret C E g4 dX12_parts_53 ⟨_, rfl, h⟩
  obtain ⟨J48, hJ48, h⟩ := h
  have k48 : ∀ t5 : MS, J48 t5 → GM p l e (rmD 1) s m args below meth c 2 D cI cZ mo ad (gm_Q below D cI cZ mo ad (pI Q t) args s) t5 48 [] [] := by
    intro t5 h
    have h := hJ48 t5 h
    refine gm_iconst C 1 dX12_parts_48 (by decide) ?_
    refine gm_goto C 53 dX12_parts_49 (by decide) ?_
    exact k53 1 t5 h
  obtain ⟨g6, h⟩ := h
  obtain ⟨g7, h⟩ := h
  have kt0 : (((v_isNewMetre a1 t) = 0) ∧ (((mgA t 3 a1) = (-1)) ∧ ((mgA t 4 a1) = (-1)))) → GM p l e (rmD 1) s m args below meth c 2 D cI cZ mo ad (gm_Q below D cI cZ mo ad (pI Q t) args s) t 28 [(0, .ref mo), (1, .int a1)] [] := by
    intro hc
    have h := h.1 hc
    refine gm_aload C 0 dX12_parts_28 rfl ?_
    refine gm_iloadn C 1 1 dX12_parts_29 rfl rfl ?_
    refine gm_iconst C 1 dX12_parts_30 (by decide) ?_
    refine gm_callV C (y := yX12_isEdge) (as := [.int a1, .int 1]) rfl (by decide) (by decide) (c_isEdge l D cI cZ mo ad a1 1 t _ h) hy_isEdge rfl wl_248 cu_isEdge dX12_parts_31 (Nat.le_of_ble_eq_true rfl) (kI (fun r8 t8 h => ?_))
    refine gm_if_ne C 48 dX12_parts_34 (by decide) (fun c34_4 => ?_) (fun c34_4 => ?_)
    · have h := h.2 c34_4
      refine gm_sub [] rfl ?_
      exact k48 t8 h
    · have h := h.1 c34_4
      refine gm_aload C 0 dX12_parts_37 rfl ?_
      refine gm_iloadn C 1 1 dX12_parts_38 rfl rfl ?_
      refine gm_iconst C 1 dX12_parts_39 (by decide) ?_
      refine gm_isub C dX12_parts_40 ?_
      refine gm_iconst C 0 dX12_parts_41 (by decide) ?_
      refine gm_callV C (y := yX12_isEdge) (as := [.int (a1 - 1), .int 0]) rfl (by decide) (by decide) (c_isEdge l D cI cZ mo ad (a1 - 1) 0 t8 _ h) hy_isEdge rfl wl_248 cu_isEdge dX12_parts_42 (Nat.le_of_ble_eq_true rfl) (kI (fun r9 t9 h => ?_))
      refine gm_if_eq C 52 dX12_parts_45 (by decide) (fun c45_5 => ?_) (fun c45_5 => ?_)
      · have h := h.1 c45_5
        refine gm_iconst C 0 dX12_parts_52 (by decide) ?_
        refine gm_sub [] rfl ?_
        exact k53 0 t9 h
      · have h := h.2 c45_5
        refine gm_sub [] rfl ?_
        exact k48 t9 h
  have kf0 : ¬ (((v_isNewMetre a1 t) = 0) ∧ (((mgA t 3 a1) = (-1)) ∧ ((mgA t 4 a1) = (-1)))) → GM p l e (rmD 1) s m args below meth c 2 D cI cZ mo ad (gm_Q below D cI cZ mo ad (pI Q t) args s) t 48 [(0, .ref mo), (1, .int a1)] [] := by
    intro hc
    have h := h.2 hc
    refine gm_sub [] rfl ?_
    exact k48 t h
  refine gm_if_ne C 48 dX12_parts_5 (by decide) (fun c5_1 => ?_) (fun c5_1 => ?_)
  · exact kf0 (fun q0 => c5_1 q0.1)
  · refine gm_aload C 0 dX12_parts_8 rfl ?_
    refine gm_getA C 3 (by decide) rfl wf_16 rfl dX12_parts_9 ?_
    refine gm_iloadn C 1 1 dX12_parts_12 rfl rfl ?_
    refine gm_iald C 3 (by decide) rfl (g6 c5_1) dX12_parts_13 ?_
    refine gm_iconst C (-1) dX12_parts_14 (by decide) ?_
    refine gm_icmp_ne C 48 dX12_parts_15 (by decide) (fun c15_2 => ?_) (fun c15_2 => ?_)
    · exact kf0 (fun q0 => (fun q1 => c15_2 q1.1) q0.2)
    · refine gm_aload C 0 dX12_parts_18 rfl ?_
      refine gm_getA C 4 (by decide) rfl wf_19 rfl dX12_parts_19 ?_
      refine gm_iloadn C 1 1 dX12_parts_22 rfl rfl ?_
      refine gm_iald C 4 (by decide) rfl (g7 c5_1 c15_2) dX12_parts_23 ?_
      refine gm_iconst C (-1) dX12_parts_24 (by decide) ?_
      refine gm_icmp_ne C 48 dX12_parts_25 (by decide) (fun c25_3 => ?_) (fun c25_3 => ?_)
      · exact kf0 (fun q0 => (fun q1 => c25_3 q1.2) q0.2)
      · exact kt0 ⟨c5_1, ⟨c15_2, c25_3⟩⟩
def w_cueOf_L5 (a1 : Int32) (a2 : Int32) (t : MS) (Q : Int32 → MS → Prop) (K5 : (Int32 × Int32) → Prop) (z5 : Int32 × Int32) : Prop := ((z5.2 < 0) → Q z5.1 t) ∧ (¬ (z5.2 < 0) → ((¬ (z5.2 = a1)) → mIn 6 (v_at z5.2 a2)) ∧ ∀ x1 : Int32, x1 = (if (z5.2 = a1) ∨ ((mgA t 6 (v_at z5.2 a2)) ≤ 0) then z5.1 else z5.2) → K5 (x1, (z5.2 + (-1))))
def w_cueOf (a1 a2 : Int32) (t : MS) (Q : Int32 → MS → Prop) : Prop := ∃ n, lp (w_cueOf_L5 a1 a2 t Q) n ((-1), 3)
set_option maxRecDepth 20000 in
set_option maxHeartbeats 2000000 in
theorem c_cueOf (l : Launch) (D : va_G) (cI cZ : ClassId) (mo : Nat) (ad : Nat → Nat) (a1 a2 : Int32) (t : MS) (Q : Int32 → MS → Prop) (h : w_cueOf a1 a2 t Q) : MetM l yX12_cueOf cX12_cueOf 5 (some .int) 1 [.ref mo, .int a1, .int a2] (pI Q) D cI cZ mo ad t := by
  unfold w_cueOf at h
  refine gm_start (by decide) rfl (Nat.le_of_ble_eq_true rfl) (fun p e s m args below meth c C E => ?_)
  refine gm_iconst C (-1) dX12_cueOf_0 (by decide) ?_
  refine gm_istoren C 3 [(3, .int (-1)), (0, .ref mo), (1, .int a1), (2, .int a2)] dX12_cueOf_1 rfl (by decide) rfl ?_
  refine gm_iconst C 3 dX12_cueOf_2 (by decide) ?_
  refine gm_istore C [(4, .int 3), (3, .int (-1)), (0, .ref mo), (1, .int a1), (2, .int a2)] dX12_cueOf_3 (by decide) rfl ?_
  refine gm_sub [2, 3, 4, 1, 0] rfl ?_
  obtain ⟨n5, h⟩ := h
  have k5 : ∀ (n5 : Nat) (z5 : Int32 × Int32), lp (w_cueOf_L5 a1 a2 t Q) n5 z5 → GM p l e (rmD 1) s m args below meth c 5 D cI cZ mo ad (gm_Q below D cI cZ mo ad (pI Q t) args s) t 5 [(0, .ref mo), (1, .int a1), (2, .int a2), (3, .int z5.1), (4, .int z5.2)] [] := by
    intro n5
    induction n5 with
    | zero => intro z5 h; exact h.elim
    | succ n5 ih5 =>
      intro z5 h
      have h : w_cueOf_L5 a1 a2 t Q (lp (w_cueOf_L5 a1 a2 t Q) n5) z5 := h
      unfold w_cueOf_L5 at h
      refine gm_iload C 4 dX12_cueOf_5 rfl ?_
      refine gm_if_lt C 43 dX12_cueOf_7 (by decide) (fun c7_1 => ?_) (fun c7_1 => ?_)
      · have h := h.1 c7_1
        refine gm_iloadn C 3 3 dX12_cueOf_43 rfl rfl ?_
        exact gm_iret C E dX12_cueOf_44 ⟨_, rfl, h⟩
      · have h := h.2 c7_1
        refine gm_iload C 4 dX12_cueOf_10 rfl ?_
        refine gm_iloadn C 1 1 dX12_cueOf_12 rfl rfl ?_
        obtain ⟨g2, h⟩ := h
        have k36 : ∀ x1 : Int32, x1 = (if (z5.2 = a1) ∨ ((mgA t 6 (v_at z5.2 a2)) ≤ 0) then z5.1 else z5.2) → GM p l e (rmD 1) s m args below meth c 5 D cI cZ mo ad (gm_Q below D cI cZ mo ad (pI Q t) args s) t 36 [(0, .ref mo), (1, .int a1), (2, .int a2), (4, .int z5.2)] [.int x1] := by
          intro x1 ex1
          have h := h x1 ex1
          refine gm_istoren C 3 [(3, .int x1), (0, .ref mo), (1, .int a1), (2, .int a2), (4, .int z5.2)] dX12_cueOf_36 rfl (by decide) rfl ?_
          refine gm_iinc C 4 (z5.2 + (-1)) [(4, .int (z5.2 + (-1))), (3, .int x1), (0, .ref mo), (1, .int a1), (2, .int a2)] dX12_cueOf_37 rfl rfl (by decide) rfl ?_
          refine gm_goto C 5 dX12_cueOf_40 (by decide) ?_
          refine gm_sub [2, 3, 4, 1, 0] rfl ?_
          have h9 := ih5 (x1, (z5.2 + (-1))) h
          exact h9
        refine gm_icmp_eq C 35 dX12_cueOf_13 (by decide) (fun c13_2 => ?_) (fun c13_2 => ?_)
        · refine gm_iloadn C 3 3 dX12_cueOf_35 rfl rfl ?_
          refine gm_sub [0, 1, 2, 4] rfl ?_
          exact k36 _ ((if_pos (Or.inl c13_2)).symm)
        · refine gm_aload C 0 dX12_cueOf_16 rfl ?_
          refine gm_getA C 6 (by decide) rfl wf_25 rfl dX12_cueOf_17 ?_
          refine gm_iload C 4 dX12_cueOf_20 rfl ?_
          refine gm_iloadn C 2 2 dX12_cueOf_22 rfl rfl ?_
          refine gm_callS C (y := yX12_at) (as := [.int z5.2, .int a2]) rfl (by decide) (by decide) (c_at l D cI cZ mo ad z5.2 a2 t) hy_at rfl wl_139 cu_at dX12_cueOf_23 (Nat.le_of_ble_eq_true rfl) (kP ?_)
          refine gm_iald C 6 (by decide) rfl (g2 c13_2) dX12_cueOf_26 ?_
          refine gm_if_le C 35 dX12_cueOf_27 (by decide) (fun c27_3 => ?_) (fun c27_3 => ?_)
          · refine gm_iloadn C 3 3 dX12_cueOf_35 rfl rfl ?_
            refine gm_sub [0, 1, 2, 4] rfl ?_
            exact k36 _ ((if_pos (Or.inr c27_3)).symm)
          · refine gm_iload C 4 dX12_cueOf_30 rfl ?_
            refine gm_goto C 36 dX12_cueOf_32 (by decide) ?_
            refine gm_sub [0, 1, 2, 4] rfl ?_
            exact k36 _ ((if_neg (fun q0 => Or.elim q0 c13_2 c27_3)).symm)
  exact k5 n5 ((-1), 3) h
def w_signs (a1 : Int32) (t : MS) (Q : Int32 → MS → Prop) : Prop := (d_isNewMetre a1 t) ∧ ∀ x2 : Int32, x2 = (if (v_isNewMetre a1 t) = 0 then 0 else 3) → (mIn 3 a1) ∧ ∀ x4 : Int32, x4 = (if (mgA t 3 a1) = (-1) then 0 else 4) → (mIn 4 a1) ∧ ∀ x6 : Int32, x6 = (if (mgA t 4 a1) = (-1) then 0 else 2) → w_isEdge a1 0 t (fun r7 t7 => ∀ x8 : Int32, x8 = (if r7 = 0 then 0 else 2) → Q (((x2 + x4) + x6) + x8) t7)
set_option maxRecDepth 20000 in
set_option maxHeartbeats 2000000 in
theorem c_signs (l : Launch) (D : va_G) (cI cZ : ClassId) (mo : Nat) (ad : Nat → Nat) (a1 : Int32) (t : MS) (Q : Int32 → MS → Prop) (h : w_signs a1 t Q) : MetM l yX12_signs cX12_signs 2 (some .int) 1 [.ref mo, .int a1] (pI Q) D cI cZ mo ad t := by
  unfold w_signs at h
  refine gm_start (by decide) rfl (Nat.le_of_ble_eq_true rfl) (fun p e s m args below meth c C E => ?_)
  refine gm_aload C 0 dX12_signs_0 rfl ?_
  refine gm_iloadn C 1 1 dX12_signs_1 rfl rfl ?_
  obtain ⟨g1, h⟩ := h
  refine gm_callV C (y := yX12_isNewMetre) (as := [.int a1]) rfl (by decide) (by decide) (c_isNewMetre l D cI cZ mo ad a1 t g1) hy_isNewMetre rfl wl_245 cu_isNewMetre dX12_signs_2 (Nat.le_of_ble_eq_true rfl) (kP ?_)
  have k13 : ∀ x2 : Int32, x2 = (if (v_isNewMetre a1 t) = 0 then 0 else 3) → GM p l e (rmD 1) s m args below meth c 2 D cI cZ mo ad (gm_Q below D cI cZ mo ad (pI Q t) args s) t 13 [(0, .ref mo), (1, .int a1)] [.int x2] := by
    intro x2 ex2
    have h := h x2 ex2
    refine gm_aload C 0 dX12_signs_13 rfl ?_
    refine gm_getA C 3 (by decide) rfl wf_16 rfl dX12_signs_14 ?_
    refine gm_iloadn C 1 1 dX12_signs_17 rfl rfl ?_
    obtain ⟨g3, h⟩ := h
    refine gm_iald C 3 (by decide) rfl g3 dX12_signs_18 ?_
    refine gm_iconst C (-1) dX12_signs_19 (by decide) ?_
    have k28 : ∀ x4 : Int32, x4 = (if (mgA t 3 a1) = (-1) then 0 else 4) → GM p l e (rmD 1) s m args below meth c 2 D cI cZ mo ad (gm_Q below D cI cZ mo ad (pI Q t) args s) t 28 [(0, .ref mo), (1, .int a1)] [.int x4, .int x2] := by
      intro x4 ex4
      have h := h x4 ex4
      refine gm_iadd C dX12_signs_28 ?_
      refine gm_aload C 0 dX12_signs_29 rfl ?_
      refine gm_getA C 4 (by decide) rfl wf_19 rfl dX12_signs_30 ?_
      refine gm_iloadn C 1 1 dX12_signs_33 rfl rfl ?_
      obtain ⟨g5, h⟩ := h
      refine gm_iald C 4 (by decide) rfl g5 dX12_signs_34 ?_
      refine gm_iconst C (-1) dX12_signs_35 (by decide) ?_
      have k44 : ∀ x6 : Int32, x6 = (if (mgA t 4 a1) = (-1) then 0 else 2) → GM p l e (rmD 1) s m args below meth c 2 D cI cZ mo ad (gm_Q below D cI cZ mo ad (pI Q t) args s) t 44 [(0, .ref mo), (1, .int a1)] [.int x6, .int (x2 + x4)] := by
        intro x6 ex6
        have h := h x6 ex6
        refine gm_iadd C dX12_signs_44 ?_
        refine gm_aload C 0 dX12_signs_45 rfl ?_
        refine gm_iloadn C 1 1 dX12_signs_46 rfl rfl ?_
        refine gm_iconst C 0 dX12_signs_47 (by decide) ?_
        refine gm_callV C (y := yX12_isEdge) (as := [.int a1, .int 0]) rfl (by decide) (by decide) (c_isEdge l D cI cZ mo ad a1 0 t _ h) hy_isEdge rfl wl_248 cu_isEdge dX12_signs_48 (Nat.le_of_ble_eq_true rfl) (kI (fun r7 t7 h => ?_))
        have k59 : ∀ x8 : Int32, x8 = (if r7 = 0 then 0 else 2) → GM p l e (rmD 1) s m args below meth c 2 D cI cZ mo ad (gm_Q below D cI cZ mo ad (pI Q t) args s) t7 59 [] [.int x8, .int ((x2 + x4) + x6)] := by
          intro x8 ex8
          have h := h x8 ex8
          refine gm_iadd C dX12_signs_59 ?_
          exact gm_iret C E dX12_signs_60 ⟨_, rfl, h⟩
        refine gm_if_eq C 58 dX12_signs_51 (by decide) (fun c51_4 => ?_) (fun c51_4 => ?_)
        · refine gm_iconst C 0 dX12_signs_58 (by decide) ?_
          refine gm_sub [] rfl ?_
          exact k59 _ ((if_pos c51_4).symm)
        · refine gm_iconst C 2 dX12_signs_54 (by decide) ?_
          refine gm_goto C 59 dX12_signs_55 (by decide) ?_
          refine gm_sub [] rfl ?_
          exact k59 _ ((if_neg c51_4).symm)
      refine gm_icmp_eq C 43 dX12_signs_36 (by decide) (fun c36_3 => ?_) (fun c36_3 => ?_)
      · refine gm_iconst C 0 dX12_signs_43 (by decide) ?_
        exact k44 _ ((if_pos c36_3).symm)
      · refine gm_iconst C 2 dX12_signs_39 (by decide) ?_
        refine gm_goto C 44 dX12_signs_40 (by decide) ?_
        exact k44 _ ((if_neg c36_3).symm)
    refine gm_icmp_eq C 27 dX12_signs_20 (by decide) (fun c20_2 => ?_) (fun c20_2 => ?_)
    · refine gm_iconst C 0 dX12_signs_27 (by decide) ?_
      exact k28 _ ((if_pos c20_2).symm)
    · refine gm_iconst C 4 dX12_signs_23 (by decide) ?_
      refine gm_goto C 28 dX12_signs_24 (by decide) ?_
      exact k28 _ ((if_neg c20_2).symm)
  refine gm_if_eq C 12 dX12_signs_5 (by decide) (fun c5_1 => ?_) (fun c5_1 => ?_)
  · refine gm_iconst C 0 dX12_signs_12 (by decide) ?_
    exact k13 _ ((if_pos c5_1).symm)
  · refine gm_iconst C 3 dX12_signs_8 (by decide) ?_
    refine gm_goto C 13 dX12_signs_9 (by decide) ?_
    exact k13 _ ((if_neg c5_1).symm)
def w_barWidth_L6 (a1 : Int32) (a2 : Int32) (t : MS) (Q : Int32 → MS → Prop) (K6 : (Int32 × Int32) → Prop) (z6 : Int32 × Int32) : Prop := (mIn 6 (v_at a1 a2)) ∧ (((mgA t 6 (v_at a1 a2)) ≤ z6.2) → Q z6.1 t) ∧ (¬ ((mgA t 6 (v_at a1 a2)) ≤ z6.2) → ∀ x2 : Int32, x2 = (v_place a1 a2 z6.2) → (mIn 11 x2) ∧ ∀ x4 : Int32, x4 = (if ¬ ((mgA t 11 x2) = (-1)) then 1 else 0) → (d_ticksOf x2 t) ∧ (mIn 10 x2) ∧ ∀ x7 : Int32, x7 = (if (mgA t 10 x2) = 1 then 2 else 0) → ∀ x8 : Int32, x8 = (if x4 = 0 then 0 else 3) → ∀ x9 : Int32, x9 = (z6.1 + (((4 + ((v_ticksOf x2 t) / 6)) + x7) + x8)) → ((¬ (x4 = 0)) → (¬ (z6.2 ≤ 0)) → mIn 11 (x2 - 1)) ∧ ∀ x10 : Int32, x10 = (if (x4 = 0) ∨ ((z6.2 ≤ 0) ∨ ((mgA t 11 (x2 - 1)) = (-1))) then 0 else 2) → ∀ x12 : Int32, x12 = (x9 + x10) → K6 (x12, (z6.2 + 1)))
def w_barWidth (a1 a2 : Int32) (t : MS) (Q : Int32 → MS → Prop) : Prop := ∃ n, lp (w_barWidth_L6 a1 a2 t Q) n (10, 0)
set_option maxRecDepth 20000 in
set_option maxHeartbeats 2000000 in
theorem c_barWidth (l : Launch) (D : va_G) (cI cZ : ClassId) (mo : Nat) (ad : Nat → Nat) (a1 a2 : Int32) (t : MS) (Q : Int32 → MS → Prop) (h : w_barWidth a1 a2 t Q) : MetM l yX12_barWidth cX12_barWidth 7 (some .int) 2 [.ref mo, .int a1, .int a2] (pI Q) D cI cZ mo ad t := by
  unfold w_barWidth at h
  refine gm_start (by decide) rfl (Nat.le_of_ble_eq_true rfl) (fun p e s m args below meth c C E => ?_)
  refine gm_bipush C 10 dX12_barWidth_0 (by decide) ?_
  refine gm_istoren C 3 [(3, .int 10), (0, .ref mo), (1, .int a1), (2, .int a2)] dX12_barWidth_2 rfl (by decide) rfl ?_
  refine gm_iconst C 0 dX12_barWidth_3 (by decide) ?_
  refine gm_istore C [(4, .int 0), (3, .int 10), (0, .ref mo), (1, .int a1), (2, .int a2)] dX12_barWidth_4 (by decide) rfl ?_
  refine gm_sub [2, 3, 4, 1, 0] rfl ?_
  obtain ⟨n6, h⟩ := h
  have k6 : ∀ (n6 : Nat) (z6 : Int32 × Int32), lp (w_barWidth_L6 a1 a2 t Q) n6 z6 → GM p l e (rmD 2) s m args below meth c 7 D cI cZ mo ad (gm_Q below D cI cZ mo ad (pI Q t) args s) t 6 [(0, .ref mo), (1, .int a1), (2, .int a2), (3, .int z6.1), (4, .int z6.2)] [] := by
    intro n6
    induction n6 with
    | zero => intro z6 h; exact h.elim
    | succ n6 ih6 =>
      intro z6 h
      have h : w_barWidth_L6 a1 a2 t Q (lp (w_barWidth_L6 a1 a2 t Q) n6) z6 := h
      unfold w_barWidth_L6 at h
      refine gm_iload C 4 dX12_barWidth_6 rfl ?_
      refine gm_aload C 0 dX12_barWidth_8 rfl ?_
      refine gm_getA C 6 (by decide) rfl wf_25 rfl dX12_barWidth_9 ?_
      refine gm_iloadn C 1 1 dX12_barWidth_12 rfl rfl ?_
      refine gm_iloadn C 2 2 dX12_barWidth_13 rfl rfl ?_
      refine gm_callS C (y := yX12_at) (as := [.int a1, .int a2]) rfl (by decide) (by decide) (c_at l D cI cZ mo ad a1 a2 t) hy_at rfl wl_139 cu_at dX12_barWidth_14 (Nat.le_of_ble_eq_true rfl) (kP ?_)
      obtain ⟨g1, h⟩ := h
      refine gm_iald C 6 (by decide) rfl g1 dX12_barWidth_17 ?_
      refine gm_icmp_ge C 127 dX12_barWidth_18 (by decide) (fun c18_1 => ?_) (fun c18_1 => ?_)
      · have h := h.1 c18_1
        refine gm_iloadn C 3 3 dX12_barWidth_127 rfl rfl ?_
        exact gm_iret C E dX12_barWidth_128 ⟨_, rfl, h⟩
      · have h := h.2 c18_1
        refine gm_iloadn C 1 1 dX12_barWidth_21 rfl rfl ?_
        refine gm_iloadn C 2 2 dX12_barWidth_22 rfl rfl ?_
        refine gm_iload C 4 dX12_barWidth_23 rfl ?_
        refine gm_callS C (y := yX12_place) (as := [.int a1, .int a2, .int z6.2]) rfl (by decide) (by decide) (c_place l D cI cZ mo ad a1 a2 z6.2 t) hy_place rfl wl_151 cu_place dX12_barWidth_25 (Nat.le_of_ble_eq_true rfl) (kP ?_)
        refine gm_nameI (fun x2 ex2 => ?_)
        have h := h x2 ex2
        refine gm_istore C [(5, .int x2), (0, .ref mo), (1, .int a1), (2, .int a2), (3, .int z6.1), (4, .int z6.2)] dX12_barWidth_28 (by decide) rfl ?_
        refine gm_aload C 1 dX12_barWidth_30 rfl ?_
        refine gm_getA C 11 (by decide) rfl wf_41 rfl dX12_barWidth_31 ?_
        refine gm_iload C 0 dX12_barWidth_34 rfl ?_
        obtain ⟨g3, h⟩ := h
        refine gm_iald C 11 (by decide) rfl g3 dX12_barWidth_36 ?_
        refine gm_iconst C (-1) dX12_barWidth_37 (by decide) ?_
        have k46 : ∀ x4 : Int32, x4 = (if ¬ ((mgA t 11 x2) = (-1)) then 1 else 0) → GM p l e (rmD 2) s m args below meth c 7 D cI cZ mo ad (gm_Q below D cI cZ mo ad (pI Q t) args s) t 46 [(0, .ref mo), (1, .int a1), (2, .int a2), (3, .int z6.1), (4, .int z6.2), (5, .int x2)] [.int x4] := by
          intro x4 ex4
          have h := h x4 ex4
          refine gm_istore C [(6, .int x4), (0, .ref mo), (1, .int a1), (2, .int a2), (3, .int z6.1), (4, .int z6.2), (5, .int x2)] dX12_barWidth_46 (by decide) rfl ?_
          refine gm_iloadn C 4 3 dX12_barWidth_48 rfl rfl ?_
          refine gm_iconst C 4 dX12_barWidth_49 (by decide) ?_
          refine gm_aload C 1 dX12_barWidth_50 rfl ?_
          refine gm_iload C 6 dX12_barWidth_51 rfl ?_
          obtain ⟨g5, h⟩ := h
          refine gm_callV C (y := yX12_ticksOf) (as := [.int x2]) rfl (by decide) (by decide) (c_ticksOf l D cI cZ mo ad x2 t g5) hy_ticksOf rfl wl_155 cu_ticksOf dX12_barWidth_53 (Nat.le_of_ble_eq_true rfl) (kP ?_)
          refine gm_bipush C 6 dX12_barWidth_56 (by decide) ?_
          refine gm_idiv C dX12_barWidth_58 (by decide) ?_
          refine gm_iadd C dX12_barWidth_59 ?_
          refine gm_aload C 1 dX12_barWidth_60 rfl ?_
          refine gm_getA C 10 (by decide) rfl wf_38 rfl dX12_barWidth_61 ?_
          refine gm_iload C 6 dX12_barWidth_64 rfl ?_
          obtain ⟨g6, h⟩ := h
          refine gm_iald C 10 (by decide) rfl g6 dX12_barWidth_66 ?_
          refine gm_iconst C 1 dX12_barWidth_67 (by decide) ?_
          have k76 : ∀ x7 : Int32, x7 = (if (mgA t 10 x2) = 1 then 2 else 0) → GM p l e (rmD 2) s m args below meth c 7 D cI cZ mo ad (gm_Q below D cI cZ mo ad (pI Q t) args s) t 76 [(0, .ref mo), (1, .int a1), (2, .int a2), (4, .int z6.2), (5, .int x2), (6, .int x4)] [.int x7, .int (4 + ((v_ticksOf x2 t) / 6)), .int z6.1] := by
            intro x7 ex7
            have h := h x7 ex7
            refine gm_iadd C dX12_barWidth_76 ?_
            refine gm_iload C 5 dX12_barWidth_77 rfl ?_
            have k87 : ∀ x8 : Int32, x8 = (if x4 = 0 then 0 else 3) → GM p l e (rmD 2) s m args below meth c 7 D cI cZ mo ad (gm_Q below D cI cZ mo ad (pI Q t) args s) t 87 [(0, .ref mo), (1, .int a1), (2, .int a2), (4, .int z6.2), (5, .int x2), (6, .int x4)] [.int x8, .int ((4 + ((v_ticksOf x2 t) / 6)) + x7), .int z6.1] := by
              intro x8 ex8
              have h := h x8 ex8
              refine gm_iadd C dX12_barWidth_87 ?_
              refine gm_iadd C dX12_barWidth_88 ?_
              refine gm_nameI (fun x9 ex9 => ?_)
              have h := h x9 ex9
              refine gm_istoren C 3 [(3, .int x9), (0, .ref mo), (1, .int a1), (2, .int a2), (4, .int z6.2), (5, .int x2), (6, .int x4)] dX12_barWidth_89 rfl (by decide) rfl ?_
              refine gm_iloadn C 0 3 dX12_barWidth_90 rfl rfl ?_
              refine gm_iload C 6 dX12_barWidth_91 rfl ?_
              obtain ⟨g11, h⟩ := h
              have k119 : ∀ x10 : Int32, x10 = (if (x4 = 0) ∨ ((z6.2 ≤ 0) ∨ ((mgA t 11 (x2 - 1)) = (-1))) then 0 else 2) → GM p l e (rmD 2) s m args below meth c 7 D cI cZ mo ad (gm_Q below D cI cZ mo ad (pI Q t) args s) t 119 [(0, .ref mo), (1, .int a1), (2, .int a2), (4, .int z6.2)] [.int x10, .int x9] := by
                intro x10 ex10
                have h := h x10 ex10
                refine gm_iadd C dX12_barWidth_119 ?_
                refine gm_nameI (fun x12 ex12 => ?_)
                have h := h x12 ex12
                refine gm_istoren C 3 [(3, .int x12), (0, .ref mo), (1, .int a1), (2, .int a2), (4, .int z6.2)] dX12_barWidth_120 rfl (by decide) rfl ?_
                refine gm_iinc C 4 (z6.2 + 1) [(4, .int (z6.2 + 1)), (3, .int x12), (0, .ref mo), (1, .int a1), (2, .int a2)] dX12_barWidth_121 rfl rfl (by decide) rfl ?_
                refine gm_goto C 6 dX12_barWidth_124 (by decide) ?_
                refine gm_sub [2, 3, 4, 1, 0] rfl ?_
                have h9 := ih6 (x12, (z6.2 + 1)) h
                exact h9
              refine gm_if_eq C 118 dX12_barWidth_93 (by decide) (fun c93_5 => ?_) (fun c93_5 => ?_)
              · refine gm_iconst C 0 dX12_barWidth_118 (by decide) ?_
                refine gm_sub [1, 2, 3, 4] rfl ?_
                exact k119 _ ((if_pos (Or.inl c93_5)).symm)
              · refine gm_iload C 4 dX12_barWidth_96 rfl ?_
                refine gm_if_le C 118 dX12_barWidth_98 (by decide) (fun c98_6 => ?_) (fun c98_6 => ?_)
                · refine gm_iconst C 0 dX12_barWidth_118 (by decide) ?_
                  refine gm_sub [1, 2, 3, 4] rfl ?_
                  exact k119 _ ((if_pos (Or.inr (Or.inl c98_6))).symm)
                · refine gm_aload C 1 dX12_barWidth_101 rfl ?_
                  refine gm_getA C 11 (by decide) rfl wf_41 rfl dX12_barWidth_102 ?_
                  refine gm_iload C 5 dX12_barWidth_105 rfl ?_
                  refine gm_iconst C 1 dX12_barWidth_107 (by decide) ?_
                  refine gm_isub C dX12_barWidth_108 ?_
                  refine gm_iald C 11 (by decide) rfl (g11 c93_5 c98_6) dX12_barWidth_109 ?_
                  refine gm_iconst C (-1) dX12_barWidth_110 (by decide) ?_
                  refine gm_icmp_eq C 118 dX12_barWidth_111 (by decide) (fun c111_7 => ?_) (fun c111_7 => ?_)
                  · refine gm_iconst C 0 dX12_barWidth_118 (by decide) ?_
                    refine gm_sub [1, 2, 3, 4] rfl ?_
                    exact k119 _ ((if_pos (Or.inr (Or.inr c111_7))).symm)
                  · refine gm_iconst C 2 dX12_barWidth_114 (by decide) ?_
                    refine gm_goto C 119 dX12_barWidth_115 (by decide) ?_
                    refine gm_sub [1, 2, 3, 4] rfl ?_
                    exact k119 _ ((if_neg (fun q0 => Or.elim q0 c93_5 (fun q1 => Or.elim q1 c98_6 c111_7))).symm)
            refine gm_if_eq C 86 dX12_barWidth_79 (by decide) (fun c79_4 => ?_) (fun c79_4 => ?_)
            · refine gm_iconst C 0 dX12_barWidth_86 (by decide) ?_
              exact k87 _ ((if_pos c79_4).symm)
            · refine gm_iconst C 3 dX12_barWidth_82 (by decide) ?_
              refine gm_goto C 87 dX12_barWidth_83 (by decide) ?_
              exact k87 _ ((if_neg c79_4).symm)
          refine gm_icmp_ne C 75 dX12_barWidth_68 (by decide) (fun c68_3 => ?_) (fun c68_3 => ?_)
          · refine gm_iconst C 0 dX12_barWidth_75 (by decide) ?_
            refine gm_sub [1, 2, 3, 5, 6, 0] rfl ?_
            exact k76 _ ((if_neg c68_3).symm)
          · refine gm_iconst C 2 dX12_barWidth_71 (by decide) ?_
            refine gm_goto C 76 dX12_barWidth_72 (by decide) ?_
            refine gm_sub [1, 2, 3, 5, 6, 0] rfl ?_
            exact k76 _ ((if_pos c68_3).symm)
        refine gm_icmp_eq C 45 dX12_barWidth_38 (by decide) (fun c38_2 => ?_) (fun c38_2 => ?_)
        · refine gm_iconst C 0 dX12_barWidth_45 (by decide) ?_
          refine gm_sub [1, 2, 3, 4, 5, 0] rfl ?_
          exact k46 _ ((if_neg (fun q0 => q0 c38_2)).symm)
        · refine gm_iconst C 1 dX12_barWidth_41 (by decide) ?_
          refine gm_goto C 46 dX12_barWidth_42 (by decide) ?_
          refine gm_sub [1, 2, 3, 4, 5, 0] rfl ?_
          exact k46 _ ((if_pos c38_2).symm)
  exact k6 n6 (10, 0) h
def w_cueWidth_L6 (a1 : Int32) (a2 : Int32) (t : MS) (Q : Int32 → MS → Prop) (K6 : (Int32 × Int32) → Prop) (z6 : Int32 × Int32) : Prop := (mIn 6 (v_at a1 a2)) ∧ (((mgA t 6 (v_at a1 a2)) ≤ z6.2) → Q z6.1 t) ∧ (¬ ((mgA t 6 (v_at a1 a2)) ≤ z6.2) → (d_ticksOf (v_place a1 a2 z6.2) t) ∧ ∀ x3 : Int32, x3 = (z6.1 + (3 + ((v_ticksOf (v_place a1 a2 z6.2) t) / 8))) → K6 (x3, (z6.2 + 1)))
def w_cueWidth (a1 a2 : Int32) (t : MS) (Q : Int32 → MS → Prop) : Prop := ∃ n, lp (w_cueWidth_L6 a1 a2 t Q) n (10, 0)
set_option maxRecDepth 20000 in
set_option maxHeartbeats 2000000 in
theorem c_cueWidth (l : Launch) (D : va_G) (cI cZ : ClassId) (mo : Nat) (ad : Nat → Nat) (a1 a2 : Int32) (t : MS) (Q : Int32 → MS → Prop) (h : w_cueWidth a1 a2 t Q) : MetM l yX12_cueWidth cX12_cueWidth 5 (some .int) 2 [.ref mo, .int a1, .int a2] (pI Q) D cI cZ mo ad t := by
  unfold w_cueWidth at h
  refine gm_start (by decide) rfl (Nat.le_of_ble_eq_true rfl) (fun p e s m args below meth c C E => ?_)
  refine gm_bipush C 10 dX12_cueWidth_0 (by decide) ?_
  refine gm_istoren C 3 [(3, .int 10), (0, .ref mo), (1, .int a1), (2, .int a2)] dX12_cueWidth_2 rfl (by decide) rfl ?_
  refine gm_iconst C 0 dX12_cueWidth_3 (by decide) ?_
  refine gm_istore C [(4, .int 0), (3, .int 10), (0, .ref mo), (1, .int a1), (2, .int a2)] dX12_cueWidth_4 (by decide) rfl ?_
  refine gm_sub [2, 3, 4, 1, 0] rfl ?_
  obtain ⟨n6, h⟩ := h
  have k6 : ∀ (n6 : Nat) (z6 : Int32 × Int32), lp (w_cueWidth_L6 a1 a2 t Q) n6 z6 → GM p l e (rmD 2) s m args below meth c 5 D cI cZ mo ad (gm_Q below D cI cZ mo ad (pI Q t) args s) t 6 [(0, .ref mo), (1, .int a1), (2, .int a2), (3, .int z6.1), (4, .int z6.2)] [] := by
    intro n6
    induction n6 with
    | zero => intro z6 h; exact h.elim
    | succ n6 ih6 =>
      intro z6 h
      have h : w_cueWidth_L6 a1 a2 t Q (lp (w_cueWidth_L6 a1 a2 t Q) n6) z6 := h
      unfold w_cueWidth_L6 at h
      refine gm_iload C 4 dX12_cueWidth_6 rfl ?_
      refine gm_aload C 0 dX12_cueWidth_8 rfl ?_
      refine gm_getA C 6 (by decide) rfl wf_25 rfl dX12_cueWidth_9 ?_
      refine gm_iloadn C 1 1 dX12_cueWidth_12 rfl rfl ?_
      refine gm_iloadn C 2 2 dX12_cueWidth_13 rfl rfl ?_
      refine gm_callS C (y := yX12_at) (as := [.int a1, .int a2]) rfl (by decide) (by decide) (c_at l D cI cZ mo ad a1 a2 t) hy_at rfl wl_139 cu_at dX12_cueWidth_14 (Nat.le_of_ble_eq_true rfl) (kP ?_)
      obtain ⟨g1, h⟩ := h
      refine gm_iald C 6 (by decide) rfl g1 dX12_cueWidth_17 ?_
      refine gm_icmp_ge C 46 dX12_cueWidth_18 (by decide) (fun c18_1 => ?_) (fun c18_1 => ?_)
      · have h := h.1 c18_1
        refine gm_iloadn C 3 3 dX12_cueWidth_46 rfl rfl ?_
        exact gm_iret C E dX12_cueWidth_47 ⟨_, rfl, h⟩
      · have h := h.2 c18_1
        refine gm_iloadn C 3 3 dX12_cueWidth_21 rfl rfl ?_
        refine gm_iconst C 3 dX12_cueWidth_22 (by decide) ?_
        refine gm_aload C 0 dX12_cueWidth_23 rfl ?_
        refine gm_iloadn C 1 1 dX12_cueWidth_24 rfl rfl ?_
        refine gm_iloadn C 2 2 dX12_cueWidth_25 rfl rfl ?_
        refine gm_iload C 4 dX12_cueWidth_26 rfl ?_
        refine gm_callS C (y := yX12_place) (as := [.int a1, .int a2, .int z6.2]) rfl (by decide) (by decide) (c_place l D cI cZ mo ad a1 a2 z6.2 t) hy_place rfl wl_151 cu_place dX12_cueWidth_28 (Nat.le_of_ble_eq_true rfl) (kP ?_)
        obtain ⟨g2, h⟩ := h
        refine gm_callV C (y := yX12_ticksOf) (as := [.int (v_place a1 a2 z6.2)]) rfl (by decide) (by decide) (c_ticksOf l D cI cZ mo ad (v_place a1 a2 z6.2) t g2) hy_ticksOf rfl wl_155 cu_ticksOf dX12_cueWidth_31 (Nat.le_of_ble_eq_true rfl) (kP ?_)
        refine gm_bipush C 8 dX12_cueWidth_34 (by decide) ?_
        refine gm_idiv C dX12_cueWidth_36 (by decide) ?_
        refine gm_iadd C dX12_cueWidth_37 ?_
        refine gm_iadd C dX12_cueWidth_38 ?_
        refine gm_nameI (fun x3 ex3 => ?_)
        have h := h x3 ex3
        refine gm_istoren C 3 [(3, .int x3), (0, .ref mo), (1, .int a1), (2, .int a2), (4, .int z6.2)] dX12_cueWidth_39 rfl (by decide) rfl ?_
        refine gm_iinc C 4 (z6.2 + 1) [(4, .int (z6.2 + 1)), (3, .int x3), (0, .ref mo), (1, .int a1), (2, .int a2)] dX12_cueWidth_40 rfl rfl (by decide) rfl ?_
        refine gm_goto C 6 dX12_cueWidth_43 (by decide) ?_
        refine gm_sub [2, 3, 4, 1, 0] rfl ?_
        have h9 := ih6 (x3, (z6.2 + 1)) h
        exact h9
  exact k6 n6 (10, 0) h
def w_addsItem_L38 (a2 : Int32) (a3 : Int32) (a4 : Int32) (a5 : Int32) (Q : MS → Prop) (K38 : (Int32 × Int32 × MS) → Prop) (z38 : Int32 × Int32 × MS) : Prop := ((a4 ≤ z38.2.1) → (mIn 33 (mgI z38.2.2 32)) ∧ ∀ t4 : MS, t4 = msA z38.2.2 33 (mgI z38.2.2 32) a2 → (mIn 34 (mgI t4 32)) ∧ ∀ t6 : MS, t6 = msA t4 34 (mgI t4 32) a3 → (mIn 35 (mgI t6 32)) ∧ ∀ t8 : MS, t8 = msA t6 35 (mgI t6 32) a4 → (mIn 36 (mgI t8 32)) ∧ ∀ t10 : MS, t10 = msA t8 36 (mgI t8 32) a5 → (mIn 37 (mgI t10 32)) ∧ ∀ t12 : MS, t12 = msA t10 37 (mgI t10 32) z38.1 → ∀ t13 : MS, t13 = msI t12 32 ((mgI t12 32) + 1) → Q t13) ∧ (¬ (a4 ≤ z38.2.1) → w_signs (a3 + z38.2.1) z38.2.2 (fun r14 t14 => ∀ x15 : Int32, x15 = (z38.1 + r14) → K38 (x15, (z38.2.1 + 1), t14)))
def w_addsItem (a1 a2 a3 a4 a5 : Int32) (t : MS) (Q : MS → Prop) : Prop := ∃ J33 : Int32 → MS → Prop, (∀ x1 : Int32, ∀ t2 : MS, J33 x1 t2 → (∃ n, lp (w_addsItem_L38 a2 a3 a4 a5 Q) n (x1, 0, t2))) ∧ (((a2 = 0) → w_barWidth a1 a3 t (fun r16 t16 => J33 r16 t16)) ∧ (¬ (a2 = 0) → ((a2 = 1) → J33 (16 + a4) t) ∧ (¬ (a2 = 1) → w_cueWidth a5 a3 t (fun r17 t17 => J33 r17 t17))))
set_option maxRecDepth 20000 in
set_option maxHeartbeats 2000000 in
theorem c_addsItem (l : Launch) (D : va_G) (cI cZ : ClassId) (mo : Nat) (ad : Nat → Nat) (a1 a2 a3 a4 a5 : Int32) (t : MS) (Q : MS → Prop) (h : w_addsItem a1 a2 a3 a4 a5 t Q) : MetM l yX12_addsItem cX12_addsItem 8 none 3 [.ref mo, .int a1, .int a2, .int a3, .int a4, .int a5] (pV Q) D cI cZ mo ad t := by
  unfold w_addsItem at h
  refine gm_start (by decide) rfl (Nat.le_of_ble_eq_true rfl) (fun p e s m args below meth c C E => ?_)
  refine gm_iloadn C 2 2 dX12_addsItem_0 rfl rfl ?_
  obtain ⟨J33, hJ33, h⟩ := h
  have k33 : ∀ x1 : Int32, ∀ t2 : MS, J33 x1 t2 → GM p l e (rmD 3) s m args below meth c 8 D cI cZ mo ad (gm_Q below D cI cZ mo ad (pV Q t) args s) t2 33 [(0, .ref mo), (2, .int a2), (3, .int a3), (4, .int a4), (5, .int a5)] [.int x1] := by
    intro x1 t2 h
    have h := hJ33 x1 t2 h
    refine gm_istore C [(6, .int x1), (0, .ref mo), (2, .int a2), (3, .int a3), (4, .int a4), (5, .int a5)] dX12_addsItem_33 (by decide) rfl ?_
    refine gm_iconst C 0 dX12_addsItem_35 (by decide) ?_
    refine gm_istore C [(7, .int 0), (6, .int x1), (0, .ref mo), (2, .int a2), (3, .int a3), (4, .int a4), (5, .int a5)] dX12_addsItem_36 (by decide) rfl ?_
    refine gm_sub [2, 3, 4, 5, 6, 1, 0] rfl ?_
    obtain ⟨n38, h⟩ := h
    have k38 : ∀ (n38 : Nat) (z38 : Int32 × Int32 × MS), lp (w_addsItem_L38 a2 a3 a4 a5 Q) n38 z38 → GM p l e (rmD 3) s m args below meth c 8 D cI cZ mo ad (gm_Q below D cI cZ mo ad (pV Q t) args s) z38.2.2 38 [(0, .ref mo), (2, .int a2), (3, .int a3), (4, .int a4), (5, .int a5), (6, .int z38.1), (7, .int z38.2.1)] [] := by
      intro n38
      induction n38 with
      | zero => intro z38 h; exact h.elim
      | succ n38 ih38 =>
        intro z38 h
        have h : w_addsItem_L38 a2 a3 a4 a5 Q (lp (w_addsItem_L38 a2 a3 a4 a5 Q) n38) z38 := h
        unfold w_addsItem_L38 at h
        refine gm_iload C 6 dX12_addsItem_38 rfl ?_
        refine gm_iload C 3 dX12_addsItem_40 rfl ?_
        refine gm_icmp_ge C 64 dX12_addsItem_42 (by decide) (fun c42_1 => ?_) (fun c42_1 => ?_)
        · have h := h.1 c42_1
          refine gm_aload C 0 dX12_addsItem_64 rfl ?_
          refine gm_getA C 33 (by decide) rfl wf_99 rfl dX12_addsItem_65 ?_
          refine gm_aload C 0 dX12_addsItem_68 rfl ?_
          refine gm_getI C 32 (by decide) rfl wf_261 rfl dX12_addsItem_69 ?_
          refine gm_iloadn C 1 2 dX12_addsItem_72 rfl rfl ?_
          obtain ⟨g3, h⟩ := h
          refine gm_iast C 33 (by decide) rfl g3 dX12_addsItem_73 ?_
          refine gm_nameT (fun t4 et4 => ?_)
          have h := h t4 et4
          refine gm_aload C 0 dX12_addsItem_74 rfl ?_
          refine gm_getA C 34 (by decide) rfl wf_102 rfl dX12_addsItem_75 ?_
          refine gm_aload C 0 dX12_addsItem_78 rfl ?_
          refine gm_getI C 32 (by decide) rfl wf_261 rfl dX12_addsItem_79 ?_
          refine gm_iloadn C 2 3 dX12_addsItem_82 rfl rfl ?_
          obtain ⟨g5, h⟩ := h
          refine gm_iast C 34 (by decide) rfl g5 dX12_addsItem_83 ?_
          refine gm_nameT (fun t6 et6 => ?_)
          have h := h t6 et6
          refine gm_aload C 0 dX12_addsItem_84 rfl ?_
          refine gm_getA C 35 (by decide) rfl wf_105 rfl dX12_addsItem_85 ?_
          refine gm_aload C 0 dX12_addsItem_88 rfl ?_
          refine gm_getI C 32 (by decide) rfl wf_261 rfl dX12_addsItem_89 ?_
          refine gm_iload C 3 dX12_addsItem_92 rfl ?_
          obtain ⟨g7, h⟩ := h
          refine gm_iast C 35 (by decide) rfl g7 dX12_addsItem_94 ?_
          refine gm_nameT (fun t8 et8 => ?_)
          have h := h t8 et8
          refine gm_aload C 0 dX12_addsItem_95 rfl ?_
          refine gm_getA C 36 (by decide) rfl wf_108 rfl dX12_addsItem_96 ?_
          refine gm_aload C 0 dX12_addsItem_99 rfl ?_
          refine gm_getI C 32 (by decide) rfl wf_261 rfl dX12_addsItem_100 ?_
          refine gm_iload C 4 dX12_addsItem_103 rfl ?_
          obtain ⟨g9, h⟩ := h
          refine gm_iast C 36 (by decide) rfl g9 dX12_addsItem_105 ?_
          refine gm_nameT (fun t10 et10 => ?_)
          have h := h t10 et10
          refine gm_aload C 0 dX12_addsItem_106 rfl ?_
          refine gm_getA C 37 (by decide) rfl wf_111 rfl dX12_addsItem_107 ?_
          refine gm_aload C 0 dX12_addsItem_110 rfl ?_
          refine gm_getI C 32 (by decide) rfl wf_261 rfl dX12_addsItem_111 ?_
          refine gm_iload C 5 dX12_addsItem_114 rfl ?_
          obtain ⟨g11, h⟩ := h
          refine gm_iast C 37 (by decide) rfl g11 dX12_addsItem_116 ?_
          refine gm_nameT (fun t12 et12 => ?_)
          have h := h t12 et12
          refine gm_aload C 0 dX12_addsItem_117 rfl ?_
          refine gm_dup C dX12_addsItem_118 rfl ?_
          refine gm_getI C 32 (by decide) rfl wf_261 rfl dX12_addsItem_119 ?_
          refine gm_iconst C 1 dX12_addsItem_122 (by decide) ?_
          refine gm_iadd C dX12_addsItem_123 ?_
          refine gm_putI C 32 (by decide) rfl wf_261 rfl rfl (by decide +kernel) dX12_addsItem_124 ?_
          refine gm_nameT (fun t13 et13 => ?_)
          have h := h t13 et13
          exact gm_vret C E dX12_addsItem_127 ⟨rfl, h⟩
        · have h := h.2 c42_1
          refine gm_iload C 5 dX12_addsItem_45 rfl ?_
          refine gm_aload C 0 dX12_addsItem_47 rfl ?_
          refine gm_iloadn C 2 3 dX12_addsItem_48 rfl rfl ?_
          refine gm_iload C 6 dX12_addsItem_49 rfl ?_
          refine gm_iadd C dX12_addsItem_51 ?_
          refine gm_callV C (y := yX12_signs) (as := [.int (a3 + z38.2.1)]) rfl (by decide) (by decide) (c_signs l D cI cZ mo ad (a3 + z38.2.1) z38.2.2 _ h) hy_signs rfl wl_258 cu_signs dX12_addsItem_52 (Nat.le_of_ble_eq_true rfl) (kI (fun r14 t14 h => ?_))
          refine gm_iadd C dX12_addsItem_55 ?_
          refine gm_nameI (fun x15 ex15 => ?_)
          have h := h x15 ex15
          refine gm_istore C [(6, .int x15), (0, .ref mo), (2, .int a2), (3, .int a3), (4, .int a4), (5, .int a5), (7, .int z38.2.1)] dX12_addsItem_56 (by decide) rfl ?_
          refine gm_iinc C 6 (z38.2.1 + 1) [(7, .int (z38.2.1 + 1)), (6, .int x15), (0, .ref mo), (2, .int a2), (3, .int a3), (4, .int a4), (5, .int a5)] dX12_addsItem_58 rfl rfl (by decide) rfl ?_
          refine gm_goto C 38 dX12_addsItem_61 (by decide) ?_
          refine gm_sub [2, 3, 4, 5, 6, 1, 0] rfl ?_
          have h9 := ih38 (x15, (z38.2.1 + 1), t14) h
          exact h9
    exact k38 n38 (x1, 0, t2) h
  refine gm_if_ne C 13 dX12_addsItem_1 (by decide) (fun c1_2 => ?_) (fun c1_2 => ?_)
  · have h := h.2 c1_2
    refine gm_iloadn C 2 2 dX12_addsItem_13 rfl rfl ?_
    refine gm_iconst C 1 dX12_addsItem_14 (by decide) ?_
    refine gm_icmp_ne C 26 dX12_addsItem_15 (by decide) (fun c15_3 => ?_) (fun c15_3 => ?_)
    · have h := h.2 c15_3
      refine gm_aload C 0 dX12_addsItem_26 rfl ?_
      refine gm_iload C 5 dX12_addsItem_27 rfl ?_
      refine gm_iloadn C 3 3 dX12_addsItem_29 rfl rfl ?_
      refine gm_callV C (y := yX12_cueWidth) (as := [.int a5, .int a3]) rfl (by decide) (by decide) (c_cueWidth l D cI cZ mo ad a5 a3 t _ h) hy_cueWidth rfl wl_255 cu_cueWidth dX12_addsItem_30 (Nat.le_of_ble_eq_true rfl) (kI (fun r17 t17 h => ?_))
      refine gm_sub [0, 2, 3, 4, 5] rfl ?_
      exact k33 r17 t17 h
    · have h := h.1 c15_3
      refine gm_bipush C 16 dX12_addsItem_18 (by decide) ?_
      refine gm_iload C 4 dX12_addsItem_20 rfl ?_
      refine gm_iadd C dX12_addsItem_22 ?_
      refine gm_goto C 33 dX12_addsItem_23 (by decide) ?_
      refine gm_sub [0, 2, 3, 4, 5] rfl ?_
      exact k33 (16 + a4) t h
  · have h := h.1 c1_2
    refine gm_aload C 0 dX12_addsItem_4 rfl ?_
    refine gm_iloadn C 1 1 dX12_addsItem_5 rfl rfl ?_
    refine gm_iloadn C 3 3 dX12_addsItem_6 rfl rfl ?_
    refine gm_callV C (y := yX12_barWidth) (as := [.int a1, .int a3]) rfl (by decide) (by decide) (c_barWidth l D cI cZ mo ad a1 a3 t _ h) hy_barWidth rfl wl_252 cu_barWidth dX12_addsItem_7 (Nat.le_of_ble_eq_true rfl) (kI (fun r16 t16 h => ?_))
    refine gm_goto C 33 dX12_addsItem_10 (by decide) ?_
    refine gm_sub [0, 2, 3, 4, 5] rfl ?_
    exact k33 r16 t16 h
def v_isEmpty (a1 a2 : Int32) (t : MS) : Int32 := (if (mgA t 6 (v_at a1 a2)) = 0 then 1 else 0)
def d_isEmpty (a1 a2 : Int32) : Prop := (mIn 6 (v_at a1 a2))
theorem vb_isEmpty {a1 a2 : Int32} {t : MS} : gb (v_isEmpty a1 a2 t) := by unfold v_isEmpty; split <;> first | exact Or.inr rfl | exact Or.inl rfl
set_option maxRecDepth 20000 in
theorem c_isEmpty (l : Launch) (D : va_G) (cI cZ : ClassId) (mo : Nat) (ad : Nat → Nat) (a1 a2 : Int32) (t : MS) (h : d_isEmpty a1 a2) : MetM l yX12_isEmpty cX12_isEmpty 3 (some .boolean) 1 [.ref mo, .int a1, .int a2] (pI (fun r t' => (v_isEmpty a1 a2 t) = r ∧ t = t')) D cI cZ mo ad t := by
  have g1 := h
  refine gm_start (by decide) rfl (Nat.le_of_ble_eq_true rfl) (fun p e s m args below meth c C E => ?_)
  refine gm_aload C 0 dX12_isEmpty_0 rfl ?_
  refine gm_getA C 6 (by decide) rfl wf_25 rfl dX12_isEmpty_1 ?_
  refine gm_iloadn C 1 1 dX12_isEmpty_4 rfl rfl ?_
  refine gm_iloadn C 2 2 dX12_isEmpty_5 rfl rfl ?_
  refine gm_callS C (y := yX12_at) (as := [.int a1, .int a2]) rfl (by decide) (by decide) (c_at l D cI cZ mo ad a1 a2 t) hy_at rfl wl_139 cu_at dX12_isEmpty_6 (Nat.le_of_ble_eq_true rfl) (kP ?_)
  refine gm_iald C 6 (by decide) rfl (g1) dX12_isEmpty_9 ?_
  refine gm_if_ne C 17 dX12_isEmpty_10 (by decide) (fun c10_1 => ?_) (fun c10_1 => ?_)
  · refine gm_iconst C 0 dX12_isEmpty_17 (by decide) ?_
    exact gm_zret C E (Or.inl rfl) dX12_isEmpty_18 ⟨_, rfl, (Eq.symm ((if_neg c10_1).symm)), rfl⟩
  · refine gm_iconst C 1 dX12_isEmpty_13 (by decide) ?_
    refine gm_goto C 18 dX12_isEmpty_14 (by decide) ?_
    exact gm_zret C E (Or.inr rfl) dX12_isEmpty_18 ⟨_, rfl, (Eq.symm ((if_pos c10_1).symm)), rfl⟩
def w_draws_L19 (a1 : Int32) (K7 : (Int32 × MS) → Prop) (z7 : Int32 × MS) (K19 : (Int32 × MS) → Prop) (z19 : Int32 × MS) : Prop := (d_isEmpty a1 z7.1) ∧ ∃ J59 : MS → Prop, (∀ t4 : MS, J59 t4 → (((¬ ((z19.1 - z7.1) < 4)) → (¬ ((mgI t4 0) ≤ z19.1)) → d_isEmpty a1 z19.1) ∧ ∀ x5 : Int32, x5 = (if (¬ ((z19.1 - z7.1) < 4)) ∧ ((¬ ((mgI t4 0) ≤ z19.1)) ∧ ((v_isEmpty a1 z19.1 t4) = 0)) then 1 else 0) → ∃ J107 : Int32 → MS → Prop, (∀ x7 : Int32, ∀ t8 : MS, J107 x7 t8 → ((d_isEmpty a1 z7.1) ∧ ∃ J175 : MS → Prop, (∀ t10 : MS, J175 t10 → (K7 (z19.1, t10))) ∧ ((((v_isEmpty a1 z7.1 t8) = 0) → w_addsItem a1 0 z7.1 1 (-1) t8 (fun t11 => J175 t11)) ∧ (¬ ((v_isEmpty a1 z7.1 t8) = 0) → ((x7 = (-1)) → w_addsItem a1 1 z7.1 (z19.1 - z7.1) (-1) t8 (fun t12 => J175 t12)) ∧ (¬ (x7 = (-1)) → w_addsItem a1 1 z7.1 ((z19.1 - z7.1) - 1) (-1) t8 (fun t13 => w_addsItem a1 2 (z19.1 - 1) 1 x7 t13 (fun t14 => J175 t14))))))) ∧ (((x5 = 0) → J107 (-1) t4) ∧ (¬ (x5 = 0) → w_cueOf a1 (z19.1 - 1) t4 (fun r15 t15 => J107 r15 t15))))) ∧ (((¬ ((v_isEmpty a1 z7.1 z19.2) = 0)) → (¬ ((mgI z19.2 0) ≤ z19.1)) → d_isEmpty a1 z19.1) ∧ ((((v_isEmpty a1 z7.1 z19.2) = 0) ∨ (((mgI z19.2 0) ≤ z19.1) ∨ ((v_isEmpty a1 z19.1 z19.2) = 0))) → J59 z19.2) ∧ (¬ (((v_isEmpty a1 z7.1 z19.2) = 0) ∨ (((mgI z19.2 0) ≤ z19.1) ∨ ((v_isEmpty a1 z19.1 z19.2) = 0))) → w_parts z19.1 z19.2 (fun r17 t17 => ((r17 = 0) → K19 ((z19.1 + 1), t17)) ∧ (¬ (r17 = 0) → J59 t17))))
def w_draws_L7 (a1 : Int32) (Q : MS → Prop) (K7 : (Int32 × MS) → Prop) (z7 : Int32 × MS) : Prop := (((mgI z7.2 0) ≤ z7.1) → Q z7.2) ∧ (¬ ((mgI z7.2 0) ≤ z7.1) → ∀ x2 : Int32, x2 = (z7.1 + 1) → ∃ n, lp (w_draws_L19 a1 K7 z7) n (x2, z7.2))
def w_draws (a1 : Int32) (t : MS) (Q : MS → Prop) : Prop := ∀ t1 : MS, t1 = msI t 32 0 → ∃ n, lp (w_draws_L7 a1 Q) n (0, t1)
set_option maxRecDepth 20000 in
set_option maxHeartbeats 2000000 in
theorem c_draws (l : Launch) (D : va_G) (cI cZ : ClassId) (mo : Nat) (ad : Nat → Nat) (a1 : Int32) (t : MS) (Q : MS → Prop) (h : w_draws a1 t Q) : MetM l yX12_draws cX12_draws 6 none 4 [.ref mo, .int a1] (pV Q) D cI cZ mo ad t := by
  unfold w_draws at h
  refine gm_start (by decide) rfl (Nat.le_of_ble_eq_true rfl) (fun p e s m args below meth c C E => ?_)
  refine gm_aload C 0 dX12_draws_0 rfl ?_
  refine gm_iconst C 0 dX12_draws_1 (by decide) ?_
  refine gm_putI C 32 (by decide) rfl wf_261 rfl rfl (by decide +kernel) dX12_draws_2 ?_
  refine gm_nameT (fun t1 et1 => ?_)
  have h := h t1 et1
  refine gm_iconst C 0 dX12_draws_5 (by decide) ?_
  refine gm_istoren C 2 [(2, .int 0), (0, .ref mo), (1, .int a1)] dX12_draws_6 rfl (by decide) rfl ?_
  refine gm_sub [1, 2, 0] rfl ?_
  obtain ⟨n7, h⟩ := h
  have k7 : ∀ (n7 : Nat) (z7 : Int32 × MS), lp (w_draws_L7 a1 Q) n7 z7 → GM p l e (rmD 4) s m args below meth c 6 D cI cZ mo ad (gm_Q below D cI cZ mo ad (pV Q t) args s) z7.2 7 [(0, .ref mo), (1, .int a1), (2, .int z7.1)] [] := by
    intro n7
    induction n7 with
    | zero => intro z7 h; exact h.elim
    | succ n7 ih7 =>
      intro z7 h
      have h : w_draws_L7 a1 Q (lp (w_draws_L7 a1 Q) n7) z7 := h
      unfold w_draws_L7 at h
      refine gm_iloadn C 2 2 dX12_draws_7 rfl rfl ?_
      refine gm_aload C 0 dX12_draws_8 rfl ?_
      refine gm_getI C 0 (by decide) rfl wf_132 rfl dX12_draws_9 ?_
      refine gm_icmp_ge C 180 dX12_draws_12 (by decide) (fun c12_1 => ?_) (fun c12_1 => ?_)
      · have h := h.1 c12_1
        exact gm_vret C E dX12_draws_180 ⟨rfl, h⟩
      · have h := h.2 c12_1
        refine gm_iloadn C 2 2 dX12_draws_15 rfl rfl ?_
        refine gm_iconst C 1 dX12_draws_16 (by decide) ?_
        refine gm_iadd C dX12_draws_17 ?_
        refine gm_nameI (fun x2 ex2 => ?_)
        have h := h x2 ex2
        refine gm_istoren C 3 [(3, .int x2), (0, .ref mo), (1, .int a1), (2, .int z7.1)] dX12_draws_18 rfl (by decide) rfl ?_
        refine gm_sub [1, 2, 3, 0] rfl ?_
        obtain ⟨n19, h⟩ := h
        have k19 : ∀ (n19 : Nat) (z19 : Int32 × MS), lp (w_draws_L19 a1 (lp (w_draws_L7 a1 Q) n7) z7) n19 z19 → GM p l e (rmD 4) s m args below meth c 6 D cI cZ mo ad (gm_Q below D cI cZ mo ad (pV Q t) args s) z19.2 19 [(0, .ref mo), (1, .int a1), (2, .int z7.1), (3, .int z19.1)] [] := by
          intro n19
          induction n19 with
          | zero => intro z19 h; exact h.elim
          | succ n19 ih19 =>
            intro z19 h
            have h : w_draws_L19 a1 (lp (w_draws_L7 a1 Q) n7) z7 (lp (w_draws_L19 a1 (lp (w_draws_L7 a1 Q) n7) z7) n19) z19 := h
            unfold w_draws_L19 at h
            refine gm_aload C 0 dX12_draws_19 rfl ?_
            refine gm_iloadn C 1 1 dX12_draws_20 rfl rfl ?_
            refine gm_iloadn C 2 2 dX12_draws_21 rfl rfl ?_
            obtain ⟨g3, h⟩ := h
            refine gm_callV C (y := yX12_isEmpty) (as := [.int a1, .int z7.1]) rfl (by decide) (by decide) (c_isEmpty l D cI cZ mo ad a1 z7.1 z19.2 g3) hy_isEmpty rfl wl_264 cu_isEmpty dX12_draws_22 (Nat.le_of_ble_eq_true rfl) (kP ?_)
            obtain ⟨J59, hJ59, h⟩ := h
            have k59 : ∀ t4 : MS, J59 t4 → GM p l e (rmD 4) s m args below meth c 6 D cI cZ mo ad (gm_Q below D cI cZ mo ad (pV Q t) args s) t4 59 [(0, .ref mo), (1, .int a1), (2, .int z7.1), (3, .int z19.1)] [] := by
              intro t4 h
              have h := hJ59 t4 h
              refine gm_iloadn C 3 3 dX12_draws_59 rfl rfl ?_
              refine gm_iloadn C 2 2 dX12_draws_60 rfl rfl ?_
              refine gm_isub C dX12_draws_61 ?_
              refine gm_iconst C 4 dX12_draws_62 (by decide) ?_
              obtain ⟨g6, h⟩ := h
              have k88 : ∀ x5 : Int32, x5 = (if (¬ ((z19.1 - z7.1) < 4)) ∧ ((¬ ((mgI t4 0) ≤ z19.1)) ∧ ((v_isEmpty a1 z19.1 t4) = 0)) then 1 else 0) → GM p l e (rmD 4) s m args below meth c 6 D cI cZ mo ad (gm_Q below D cI cZ mo ad (pV Q t) args s) t4 88 [(0, .ref mo), (1, .int a1), (2, .int z7.1), (3, .int z19.1)] [.int x5] := by
                intro x5 ex5
                have h := h x5 ex5
                refine gm_istore C [(4, .int x5), (0, .ref mo), (1, .int a1), (2, .int z7.1), (3, .int z19.1)] dX12_draws_88 (by decide) rfl ?_
                refine gm_iload C 0 dX12_draws_90 rfl ?_
                obtain ⟨J107, hJ107, h⟩ := h
                have k107 : ∀ x7 : Int32, ∀ t8 : MS, J107 x7 t8 → GM p l e (rmD 4) s m args below meth c 6 D cI cZ mo ad (gm_Q below D cI cZ mo ad (pV Q t) args s) t8 107 [(0, .ref mo), (1, .int a1), (2, .int z7.1), (3, .int z19.1)] [.int x7] := by
                  intro x7 t8 h
                  have h := hJ107 x7 t8 h
                  refine gm_istore C [(5, .int x7), (0, .ref mo), (1, .int a1), (2, .int z7.1), (3, .int z19.1)] dX12_draws_107 (by decide) rfl ?_
                  refine gm_aload C 1 dX12_draws_109 rfl ?_
                  refine gm_iloadn C 2 1 dX12_draws_110 rfl rfl ?_
                  refine gm_iloadn C 3 2 dX12_draws_111 rfl rfl ?_
                  obtain ⟨g9, h⟩ := h
                  refine gm_callV C (y := yX12_isEmpty) (as := [.int a1, .int z7.1]) rfl (by decide) (by decide) (c_isEmpty l D cI cZ mo ad a1 z7.1 t8 g9) hy_isEmpty rfl wl_264 cu_isEmpty dX12_draws_112 (Nat.le_of_ble_eq_true rfl) (kP ?_)
                  obtain ⟨J175, hJ175, h⟩ := h
                  have k175 : ∀ t10 : MS, J175 t10 → GM p l e (rmD 4) s m args below meth c 6 D cI cZ mo ad (gm_Q below D cI cZ mo ad (pV Q t) args s) t10 175 [(0, .ref mo), (1, .int a1), (3, .int z19.1)] [] := by
                    intro t10 h
                    have h := hJ175 t10 h
                    refine gm_iloadn C 2 3 dX12_draws_175 rfl rfl ?_
                    refine gm_istoren C 2 [(2, .int z19.1), (0, .ref mo), (1, .int a1), (3, .int z19.1)] dX12_draws_176 rfl (by decide) rfl ?_
                    refine gm_goto C 7 dX12_draws_177 (by decide) ?_
                    refine gm_sub [1, 2, 0] rfl ?_
                    have h9 := ih7 (z19.1, t10) h
                    exact h9
                  refine gm_if_ne C 130 dX12_draws_115 (by decide) (fun c115_5 => ?_) (fun c115_5 => ?_)
                  · have h := h.2 c115_5
                    refine gm_iload C 0 dX12_draws_130 rfl ?_
                    refine gm_iconst C (-1) dX12_draws_132 (by decide) ?_
                    refine gm_icmp_ne C 150 dX12_draws_133 (by decide) (fun c133_6 => ?_) (fun c133_6 => ?_)
                    · have h := h.2 c133_6
                      refine gm_aload C 1 dX12_draws_150 rfl ?_
                      refine gm_iloadn C 2 1 dX12_draws_151 rfl rfl ?_
                      refine gm_iconst C 1 dX12_draws_152 (by decide) ?_
                      refine gm_iloadn C 3 2 dX12_draws_153 rfl rfl ?_
                      refine gm_iloadn C 4 3 dX12_draws_154 rfl rfl ?_
                      refine gm_iloadn C 3 2 dX12_draws_155 rfl rfl ?_
                      refine gm_isub C dX12_draws_156 ?_
                      refine gm_iconst C 1 dX12_draws_157 (by decide) ?_
                      refine gm_isub C dX12_draws_158 ?_
                      refine gm_iconst C (-1) dX12_draws_159 (by decide) ?_
                      refine gm_callV C (y := yX12_addsItem) (as := [.int a1, .int 1, .int z7.1, .int ((z19.1 - z7.1) - 1), .int (-1)]) rfl (by decide) (by decide) (c_addsItem l D cI cZ mo ad a1 1 z7.1 ((z19.1 - z7.1) - 1) (-1) t8 _ h) hy_addsItem rfl wl_273 cu_addsItem dX12_draws_160 (Nat.le_of_ble_eq_true rfl) (kV (fun t13 h => ?_))
                      refine gm_aload C 1 dX12_draws_163 rfl ?_
                      refine gm_iloadn C 2 1 dX12_draws_164 rfl rfl ?_
                      refine gm_iconst C 2 dX12_draws_165 (by decide) ?_
                      refine gm_iloadn C 4 3 dX12_draws_166 rfl rfl ?_
                      refine gm_iconst C 1 dX12_draws_167 (by decide) ?_
                      refine gm_isub C dX12_draws_168 ?_
                      refine gm_iconst C 1 dX12_draws_169 (by decide) ?_
                      refine gm_iload C 0 dX12_draws_170 rfl ?_
                      refine gm_callV C (y := yX12_addsItem) (as := [.int a1, .int 2, .int (z19.1 - 1), .int 1, .int x7]) rfl (by decide) (by decide) (c_addsItem l D cI cZ mo ad a1 2 (z19.1 - 1) 1 x7 t13 _ h) hy_addsItem rfl wl_273 cu_addsItem dX12_draws_172 (Nat.le_of_ble_eq_true rfl) (kV (fun t14 h => ?_))
                      refine gm_sub [1, 2, 4] rfl ?_
                      exact k175 t14 h
                    · have h := h.1 c133_6
                      refine gm_aload C 1 dX12_draws_136 rfl ?_
                      refine gm_iloadn C 2 1 dX12_draws_137 rfl rfl ?_
                      refine gm_iconst C 1 dX12_draws_138 (by decide) ?_
                      refine gm_iloadn C 3 2 dX12_draws_139 rfl rfl ?_
                      refine gm_iloadn C 4 3 dX12_draws_140 rfl rfl ?_
                      refine gm_iloadn C 3 2 dX12_draws_141 rfl rfl ?_
                      refine gm_isub C dX12_draws_142 ?_
                      refine gm_iconst C (-1) dX12_draws_143 (by decide) ?_
                      refine gm_callV C (y := yX12_addsItem) (as := [.int a1, .int 1, .int z7.1, .int (z19.1 - z7.1), .int (-1)]) rfl (by decide) (by decide) (c_addsItem l D cI cZ mo ad a1 1 z7.1 (z19.1 - z7.1) (-1) t8 _ h) hy_addsItem rfl wl_273 cu_addsItem dX12_draws_144 (Nat.le_of_ble_eq_true rfl) (kV (fun t12 h => ?_))
                      refine gm_goto C 175 dX12_draws_147 (by decide) ?_
                      refine gm_sub [1, 2, 4] rfl ?_
                      exact k175 t12 h
                  · have h := h.1 c115_5
                    refine gm_aload C 1 dX12_draws_118 rfl ?_
                    refine gm_iloadn C 2 1 dX12_draws_119 rfl rfl ?_
                    refine gm_iconst C 0 dX12_draws_120 (by decide) ?_
                    refine gm_iloadn C 3 2 dX12_draws_121 rfl rfl ?_
                    refine gm_iconst C 1 dX12_draws_122 (by decide) ?_
                    refine gm_iconst C (-1) dX12_draws_123 (by decide) ?_
                    refine gm_callV C (y := yX12_addsItem) (as := [.int a1, .int 0, .int z7.1, .int 1, .int (-1)]) rfl (by decide) (by decide) (c_addsItem l D cI cZ mo ad a1 0 z7.1 1 (-1) t8 _ h) hy_addsItem rfl wl_273 cu_addsItem dX12_draws_124 (Nat.le_of_ble_eq_true rfl) (kV (fun t11 h => ?_))
                    refine gm_goto C 175 dX12_draws_127 (by decide) ?_
                    refine gm_sub [1, 2, 4] rfl ?_
                    exact k175 t11 h
                refine gm_if_eq C 106 dX12_draws_92 (by decide) (fun c92_7 => ?_) (fun c92_7 => ?_)
                · have h := h.1 c92_7
                  refine gm_iconst C (-1) dX12_draws_106 (by decide) ?_
                  refine gm_sub [1, 2, 3, 4] rfl ?_
                  exact k107 (-1) t4 h
                · have h := h.2 c92_7
                  refine gm_aload C 1 dX12_draws_95 rfl ?_
                  refine gm_iloadn C 2 1 dX12_draws_96 rfl rfl ?_
                  refine gm_iloadn C 4 3 dX12_draws_97 rfl rfl ?_
                  refine gm_iconst C 1 dX12_draws_98 (by decide) ?_
                  refine gm_isub C dX12_draws_99 ?_
                  refine gm_callV C (y := yX12_cueOf) (as := [.int a1, .int (z19.1 - 1)]) rfl (by decide) (by decide) (c_cueOf l D cI cZ mo ad a1 (z19.1 - 1) t4 _ h) hy_cueOf rfl wl_270 cu_cueOf dX12_draws_100 (Nat.le_of_ble_eq_true rfl) (kI (fun r15 t15 h => ?_))
                  refine gm_goto C 107 dX12_draws_103 (by decide) ?_
                  refine gm_sub [1, 2, 3, 4] rfl ?_
                  exact k107 r15 t15 h
              refine gm_icmp_lt C 87 dX12_draws_63 (by decide) (fun c63_2 => ?_) (fun c63_2 => ?_)
              · refine gm_iconst C 0 dX12_draws_87 (by decide) ?_
                exact k88 _ ((if_neg (fun q0 => q0.1 c63_2)).symm)
              · refine gm_iloadn C 3 3 dX12_draws_66 rfl rfl ?_
                refine gm_aload C 0 dX12_draws_67 rfl ?_
                refine gm_getI C 0 (by decide) rfl wf_132 rfl dX12_draws_68 ?_
                refine gm_icmp_ge C 87 dX12_draws_71 (by decide) (fun c71_3 => ?_) (fun c71_3 => ?_)
                · refine gm_iconst C 0 dX12_draws_87 (by decide) ?_
                  exact k88 _ ((if_neg (fun q0 => (fun q1 => q1.1 c71_3) q0.2)).symm)
                · refine gm_aload C 0 dX12_draws_74 rfl ?_
                  refine gm_iloadn C 1 1 dX12_draws_75 rfl rfl ?_
                  refine gm_iloadn C 3 3 dX12_draws_76 rfl rfl ?_
                  refine gm_callV C (y := yX12_isEmpty) (as := [.int a1, .int z19.1]) rfl (by decide) (by decide) (c_isEmpty l D cI cZ mo ad a1 z19.1 t4 (g6 c63_2 c71_3)) hy_isEmpty rfl wl_264 cu_isEmpty dX12_draws_77 (Nat.le_of_ble_eq_true rfl) (kP ?_)
                  refine gm_if_ne C 87 dX12_draws_80 (by decide) (fun c80_4 => ?_) (fun c80_4 => ?_)
                  · refine gm_iconst C 0 dX12_draws_87 (by decide) ?_
                    exact k88 _ ((if_neg (fun q0 => (fun q1 => c80_4 q1.2) q0.2)).symm)
                  · refine gm_iconst C 1 dX12_draws_83 (by decide) ?_
                    refine gm_goto C 88 dX12_draws_84 (by decide) ?_
                    exact k88 _ ((if_pos ⟨c63_2, ⟨c71_3, c80_4⟩⟩).symm)
            obtain ⟨g16, h⟩ := h
            have kt19 : (((v_isEmpty a1 z7.1 z19.2) = 0) ∨ (((mgI z19.2 0) ≤ z19.1) ∨ ((v_isEmpty a1 z19.1 z19.2) = 0))) → GM p l e (rmD 4) s m args below meth c 6 D cI cZ mo ad (gm_Q below D cI cZ mo ad (pV Q t) args s) z19.2 59 [(0, .ref mo), (1, .int a1), (2, .int z7.1), (3, .int z19.1)] [] := by
              intro hc
              have h := h.1 hc
              exact k59 z19.2 h
            have kf19 : ¬ (((v_isEmpty a1 z7.1 z19.2) = 0) ∨ (((mgI z19.2 0) ≤ z19.1) ∨ ((v_isEmpty a1 z19.1 z19.2) = 0))) → GM p l e (rmD 4) s m args below meth c 6 D cI cZ mo ad (gm_Q below D cI cZ mo ad (pV Q t) args s) z19.2 45 [(0, .ref mo), (1, .int a1), (2, .int z7.1), (3, .int z19.1)] [] := by
              intro hc
              have h := h.2 hc
              refine gm_aload C 0 dX12_draws_45 rfl ?_
              refine gm_iloadn C 3 3 dX12_draws_46 rfl rfl ?_
              refine gm_callV C (y := yX12_parts) (as := [.int z19.1]) rfl (by decide) (by decide) (c_parts l D cI cZ mo ad z19.1 z19.2 _ h) hy_parts rfl wl_267 cu_parts dX12_draws_47 (Nat.le_of_ble_eq_true rfl) (kI (fun r17 t17 h => ?_))
              refine gm_if_ne C 59 dX12_draws_50 (by decide) (fun c50_11 => ?_) (fun c50_11 => ?_)
              · have h := h.2 c50_11
                exact k59 t17 h
              · have h := h.1 c50_11
                refine gm_iinc C 3 (z19.1 + 1) [(3, .int (z19.1 + 1)), (0, .ref mo), (1, .int a1), (2, .int z7.1)] dX12_draws_53 rfl rfl (by decide) rfl ?_
                refine gm_goto C 19 dX12_draws_56 (by decide) ?_
                refine gm_sub [1, 2, 3, 0] rfl ?_
                have h9 := ih19 ((z19.1 + 1), t17) h
                exact h9
            refine gm_if_eq C 59 dX12_draws_25 (by decide) (fun c25_8 => ?_) (fun c25_8 => ?_)
            · exact kt19 (Or.inl c25_8)
            · refine gm_iloadn C 3 3 dX12_draws_28 rfl rfl ?_
              refine gm_aload C 0 dX12_draws_29 rfl ?_
              refine gm_getI C 0 (by decide) rfl wf_132 rfl dX12_draws_30 ?_
              refine gm_icmp_ge C 59 dX12_draws_33 (by decide) (fun c33_9 => ?_) (fun c33_9 => ?_)
              · exact kt19 (Or.inr (Or.inl c33_9))
              · refine gm_aload C 0 dX12_draws_36 rfl ?_
                refine gm_iloadn C 1 1 dX12_draws_37 rfl rfl ?_
                refine gm_iloadn C 3 3 dX12_draws_38 rfl rfl ?_
                refine gm_callV C (y := yX12_isEmpty) (as := [.int a1, .int z19.1]) rfl (by decide) (by decide) (c_isEmpty l D cI cZ mo ad a1 z19.1 z19.2 (g16 c25_8 c33_9)) hy_isEmpty rfl wl_264 cu_isEmpty dX12_draws_39 (Nat.le_of_ble_eq_true rfl) (kP ?_)
                refine gm_if_eq C 59 dX12_draws_42 (by decide) (fun c42_10 => ?_) (fun c42_10 => ?_)
                · exact kt19 (Or.inr (Or.inr c42_10))
                · exact kf19 (fun q0 => Or.elim q0 c25_8 (fun q1 => Or.elim q1 c33_9 c42_10))
        exact k19 n19 (x2, z7.2) h
  exact k7 n7 (0, t1) h
def w_isDrawn (a1 : Int32) (t : MS) (Q : Int32 → MS → Prop) : Prop := ∃ J20 : Int32 → MS → Prop, (∀ x1 : Int32, ∀ t2 : MS, J20 x1 t2 → (∃ J30 : MS → Prop, (∀ t3 : MS, J30 t3 → ((gb x1) ∧ Q x1 t3)) ∧ (((x1 = 0) → J30 t2) ∧ (¬ (x1 = 0) → w_draws a1 t2 (fun t5 => J30 t5))))) ∧ ∃ J19 : MS → Prop, (∀ t6 : MS, J19 t6 → (J20 0 t6)) ∧ ((((v_isVoice a1) = 0) → J19 t) ∧ (¬ ((v_isVoice a1) = 0) → w_canDraw a1 t (fun r7 t7 => ((r7 = 0) → J19 t7) ∧ (¬ (r7 = 0) → J20 1 t7))))
set_option maxRecDepth 20000 in
set_option maxHeartbeats 2000000 in
theorem c_isDrawn (l : Launch) (D : va_G) (cI cZ : ClassId) (mo : Nat) (ad : Nat → Nat) (a1 : Int32) (t : MS) (Q : Int32 → MS → Prop) (h : w_isDrawn a1 t Q) : MetM l yX12_isDrawn cX12_isDrawn 3 (some .boolean) 6 [.ref mo, .int a1] (pI Q) D cI cZ mo ad t := by
  unfold w_isDrawn at h
  refine gm_start (by decide) rfl (Nat.le_of_ble_eq_true rfl) (fun p e s m args below meth c C E => ?_)
  refine gm_iloadn C 1 1 dX12_isDrawn_0 rfl rfl ?_
  refine gm_callS C (y := yX12_isVoice) (as := [.int a1]) rfl (by decide) (by decide) (c_isVoice l D cI cZ mo ad a1 t) hy_isVoice rfl wl_184 cu_isVoice dX12_isDrawn_1 (Nat.le_of_ble_eq_true rfl) (kP ?_)
  obtain ⟨J20, hJ20, h⟩ := h
  have k20 : ∀ x1 : Int32, ∀ t2 : MS, J20 x1 t2 → GM p l e (rmD 6) s m args below meth c 3 D cI cZ mo ad (gm_Q below D cI cZ mo ad (pI Q t) args s) t2 20 [(0, .ref mo), (1, .int a1)] [.int x1] := by
    intro x1 t2 h
    have h := hJ20 x1 t2 h
    refine gm_istoren C 2 [(2, .int x1), (0, .ref mo), (1, .int a1)] dX12_isDrawn_20 rfl (by decide) rfl ?_
    refine gm_iloadn C 0 2 dX12_isDrawn_21 rfl rfl ?_
    obtain ⟨J30, hJ30, h⟩ := h
    have k30 : ∀ t3 : MS, J30 t3 → GM p l e (rmD 6) s m args below meth c 3 D cI cZ mo ad (gm_Q below D cI cZ mo ad (pI Q t) args s) t3 30 [(2, .int x1)] [] := by
      intro t3 h
      have h := hJ30 t3 h
      refine gm_iloadn C 0 2 dX12_isDrawn_30 rfl rfl ?_
      obtain ⟨g4, h⟩ := h
      exact gm_zret C E g4 dX12_isDrawn_31 ⟨_, rfl, h⟩
    refine gm_if_eq C 30 dX12_isDrawn_22 (by decide) (fun c22_1 => ?_) (fun c22_1 => ?_)
    · have h := h.1 c22_1
      refine gm_sub [0] rfl ?_
      exact k30 t2 h
    · have h := h.2 c22_1
      refine gm_aload C 1 dX12_isDrawn_25 rfl ?_
      refine gm_iloadn C 2 1 dX12_isDrawn_26 rfl rfl ?_
      refine gm_callV C (y := yX12_draws) (as := [.int a1]) rfl (by decide) (by decide) (c_draws l D cI cZ mo ad a1 t2 _ h) hy_draws rfl wl_280 cu_draws dX12_isDrawn_27 (Nat.le_of_ble_eq_true rfl) (kV (fun t5 h => ?_))
      refine gm_sub [0] rfl ?_
      exact k30 t5 h
  obtain ⟨J19, hJ19, h⟩ := h
  have k19 : ∀ t6 : MS, J19 t6 → GM p l e (rmD 6) s m args below meth c 3 D cI cZ mo ad (gm_Q below D cI cZ mo ad (pI Q t) args s) t6 19 [(0, .ref mo), (1, .int a1)] [] := by
    intro t6 h
    have h := hJ19 t6 h
    refine gm_iconst C 0 dX12_isDrawn_19 (by decide) ?_
    exact k20 0 t6 h
  refine gm_if_eq C 19 dX12_isDrawn_4 (by decide) (fun c4_2 => ?_) (fun c4_2 => ?_)
  · have h := h.1 c4_2
    exact k19 t h
  · have h := h.2 c4_2
    refine gm_aload C 0 dX12_isDrawn_7 rfl ?_
    refine gm_iloadn C 1 1 dX12_isDrawn_8 rfl rfl ?_
    refine gm_callV C (y := yX12_canDraw) (as := [.int a1]) rfl (by decide) (by decide) (c_canDraw l D cI cZ mo ad a1 t _ h) hy_canDraw rfl wl_277 cu_canDraw dX12_isDrawn_9 (Nat.le_of_ble_eq_true rfl) (kI (fun r7 t7 h => ?_))
    refine gm_if_eq C 19 dX12_isDrawn_12 (by decide) (fun c12_3 => ?_) (fun c12_3 => ?_)
    · have h := h.1 c12_3
      exact k19 t7 h
    · have h := h.2 c12_3
      refine gm_iconst C 1 dX12_isDrawn_15 (by decide) ?_
      refine gm_goto C 20 dX12_isDrawn_16 (by decide) ?_
      exact k20 1 t7 h
def w_isItem (a1 a2 : Int32) (t : MS) (Q : Int32 → MS → Prop) : Prop := w_isDrawn a1 t (fun r1 t1 => ∀ x2 : Int32, x2 = (if (¬ (r1 = 0)) ∧ (¬ ((v_in a2 0 ((mgI t1 32) - 1)) = 0)) then 1 else 0) → w_goes (v_isVoice a1) r1 x2 t1 (fun r3 t3 => (gb r3) ∧ Q r3 t3))
set_option maxRecDepth 20000 in
set_option maxHeartbeats 2000000 in
theorem c_isItem (l : Launch) (D : va_G) (cI cZ : ClassId) (mo : Nat) (ad : Nat → Nat) (a1 a2 : Int32) (t : MS) (Q : Int32 → MS → Prop) (h : w_isItem a1 a2 t Q) : MetM l yX12_isItem cX12_isItem 4 (some .boolean) 7 [.ref mo, .int a1, .int a2] (pI Q) D cI cZ mo ad t := by
  unfold w_isItem at h
  refine gm_start (by decide) rfl (Nat.le_of_ble_eq_true rfl) (fun p e s m args below meth c C E => ?_)
  refine gm_aload C 0 dX12_isItem_0 rfl ?_
  refine gm_iloadn C 1 1 dX12_isItem_1 rfl rfl ?_
  refine gm_callV C (y := yX12_isDrawn) (as := [.int a1]) rfl (by decide) (by decide) (c_isDrawn l D cI cZ mo ad a1 t _ h) hy_isDrawn rfl wl_283 cu_isDrawn dX12_isItem_2 (Nat.le_of_ble_eq_true rfl) (kI (fun r1 t1 h => ?_))
  refine gm_istoren C 3 [(3, .int r1), (0, .ref mo), (1, .int a1), (2, .int a2)] dX12_isItem_5 rfl (by decide) rfl ?_
  refine gm_aload C 1 dX12_isItem_6 rfl ?_
  refine gm_iloadn C 2 1 dX12_isItem_7 rfl rfl ?_
  refine gm_callS C (y := yX12_isVoice) (as := [.int a1]) rfl (by decide) (by decide) (c_isVoice l D cI cZ mo ad a1 t1) hy_isVoice rfl wl_184 cu_isVoice dX12_isItem_8 (Nat.le_of_ble_eq_true rfl) (kP ?_)
  refine gm_iloadn C 0 3 dX12_isItem_11 rfl rfl ?_
  refine gm_iloadn C 0 3 dX12_isItem_12 rfl rfl ?_
  have k35 : ∀ x2 : Int32, x2 = (if (¬ (r1 = 0)) ∧ (¬ ((v_in a2 0 ((mgI t1 32) - 1)) = 0)) then 1 else 0) → GM p l e (rmD 7) s m args below meth c 4 D cI cZ mo ad (gm_Q below D cI cZ mo ad (pI Q t) args s) t1 35 [] [.int x2, .int r1, .int (v_isVoice a1), .ref mo] := by
    intro x2 ex2
    have h := h x2 ex2
    refine gm_callV C (y := yX12_goes) (as := [.int (v_isVoice a1), .int r1, .int x2]) rfl (by decide) (by decide) (c_goes l D cI cZ mo ad (v_isVoice a1) r1 x2 t1 _ h) hy_goes rfl wl_165 cu_goes dX12_isItem_35 (Nat.le_of_ble_eq_true rfl) (kI (fun r3 t3 h => ?_))
    obtain ⟨g4, h⟩ := h
    exact gm_zret C E g4 dX12_isItem_38 ⟨_, rfl, h⟩
  refine gm_if_eq C 34 dX12_isItem_13 (by decide) (fun c13_1 => ?_) (fun c13_1 => ?_)
  · refine gm_iconst C 0 dX12_isItem_34 (by decide) ?_
    refine gm_sub [] rfl ?_
    exact k35 _ ((if_neg (fun q0 => q0.1 c13_1)).symm)
  · refine gm_iloadn C 3 2 dX12_isItem_16 rfl rfl ?_
    refine gm_iconst C 0 dX12_isItem_17 (by decide) ?_
    refine gm_aload C 1 dX12_isItem_18 rfl ?_
    refine gm_getI C 32 (by decide) rfl wf_261 rfl dX12_isItem_19 ?_
    refine gm_iconst C 1 dX12_isItem_22 (by decide) ?_
    refine gm_isub C dX12_isItem_23 ?_
    refine gm_callS C (y := yX12_in) (as := [.int a2, .int 0, .int ((mgI t1 32) - 1)]) rfl (by decide) (by decide) (c_in l D cI cZ mo ad a2 0 ((mgI t1 32) - 1) t1) hy_in rfl wl_135 cu_in dX12_isItem_24 (Nat.le_of_ble_eq_true rfl) (kP ?_)
    refine gm_if_eq C 34 dX12_isItem_27 (by decide) (fun c27_2 => ?_) (fun c27_2 => ?_)
    · refine gm_iconst C 0 dX12_isItem_34 (by decide) ?_
      refine gm_sub [] rfl ?_
      exact k35 _ ((if_neg (fun q0 => (fun q1 => q1 c27_2) q0.2)).symm)
    · refine gm_iconst C 1 dX12_isItem_30 (by decide) ?_
      refine gm_goto C 35 dX12_isItem_31 (by decide) ?_
      refine gm_sub [] rfl ?_
      exact k35 _ ((if_pos ⟨c13_1, c27_2⟩).symm)
def w_items (a1 : Int32) (t : MS) (Q : Int32 → MS → Prop) : Prop := w_isDrawn a1 t (fun r1 t1 => w_goes (v_isVoice a1) r1 1 t1 (fun r2 t2 => ∀ x3 : Int32, x3 = (if r2 = 0 then 0 else (mgI t2 32)) → Q x3 t2))
set_option maxRecDepth 20000 in
set_option maxHeartbeats 2000000 in
theorem c_items (l : Launch) (D : va_G) (cI cZ : ClassId) (mo : Nat) (ad : Nat → Nat) (a1 : Int32) (t : MS) (Q : Int32 → MS → Prop) (h : w_items a1 t Q) : MetM l yX12_items cX12_items 3 (some .int) 7 [.ref mo, .int a1] (pI Q) D cI cZ mo ad t := by
  unfold w_items at h
  refine gm_start (by decide) rfl (Nat.le_of_ble_eq_true rfl) (fun p e s m args below meth c C E => ?_)
  refine gm_aload C 0 dX12_items_0 rfl ?_
  refine gm_iloadn C 1 1 dX12_items_1 rfl rfl ?_
  refine gm_callV C (y := yX12_isDrawn) (as := [.int a1]) rfl (by decide) (by decide) (c_isDrawn l D cI cZ mo ad a1 t _ h) hy_isDrawn rfl wl_283 cu_isDrawn dX12_items_2 (Nat.le_of_ble_eq_true rfl) (kI (fun r1 t1 h => ?_))
  refine gm_istoren C 2 [(2, .int r1), (0, .ref mo), (1, .int a1)] dX12_items_5 rfl (by decide) rfl ?_
  refine gm_aload C 1 dX12_items_6 rfl ?_
  refine gm_iloadn C 2 1 dX12_items_7 rfl rfl ?_
  refine gm_callS C (y := yX12_isVoice) (as := [.int a1]) rfl (by decide) (by decide) (c_isVoice l D cI cZ mo ad a1 t1) hy_isVoice rfl wl_184 cu_isVoice dX12_items_8 (Nat.le_of_ble_eq_true rfl) (kP ?_)
  refine gm_iloadn C 0 2 dX12_items_11 rfl rfl ?_
  refine gm_iconst C 1 dX12_items_12 (by decide) ?_
  refine gm_callV C (y := yX12_goes) (as := [.int (v_isVoice a1), .int r1, .int 1]) rfl (by decide) (by decide) (c_goes l D cI cZ mo ad (v_isVoice a1) r1 1 t1 _ h) hy_goes rfl wl_165 cu_goes dX12_items_13 (Nat.le_of_ble_eq_true rfl) (kI (fun r2 t2 h => ?_))
  have k27 : ∀ x3 : Int32, x3 = (if r2 = 0 then 0 else (mgI t2 32)) → GM p l e (rmD 7) s m args below meth c 3 D cI cZ mo ad (gm_Q below D cI cZ mo ad (pI Q t) args s) t2 27 [] [.int x3] := by
    intro x3 ex3
    have h := h x3 ex3
    exact gm_iret C E dX12_items_27 ⟨_, rfl, h⟩
  refine gm_if_eq C 26 dX12_items_16 (by decide) (fun c16_1 => ?_) (fun c16_1 => ?_)
  · refine gm_iconst C 0 dX12_items_26 (by decide) ?_
    refine gm_sub [] rfl ?_
    exact k27 _ ((if_pos c16_1).symm)
  · refine gm_aload C 1 dX12_items_19 rfl ?_
    refine gm_getI C 32 (by decide) rfl wf_261 rfl dX12_items_20 ?_
    refine gm_goto C 27 dX12_items_23 (by decide) ?_
    refine gm_sub [] rfl ?_
    exact k27 _ ((if_neg c16_1).symm)
def w_itemKind (a1 a2 : Int32) (t : MS) (Q : Int32 → MS → Prop) : Prop := w_isItem a1 a2 t (fun r1 t1 => ((¬ (r1 = 0)) → mIn 33 a2) ∧ ∀ x2 : Int32, x2 = (if r1 = 0 then 0 else (mgA t1 33 a2)) → Q x2 t1)
set_option maxRecDepth 20000 in
set_option maxHeartbeats 2000000 in
theorem c_itemKind (l : Launch) (D : va_G) (cI cZ : ClassId) (mo : Nat) (ad : Nat → Nat) (a1 a2 : Int32) (t : MS) (Q : Int32 → MS → Prop) (h : w_itemKind a1 a2 t Q) : MetM l yX12_itemKind cX12_itemKind 3 (some .int) 8 [.ref mo, .int a1, .int a2] (pI Q) D cI cZ mo ad t := by
  unfold w_itemKind at h
  refine gm_start (by decide) rfl (Nat.le_of_ble_eq_true rfl) (fun p e s m args below meth c C E => ?_)
  refine gm_aload C 0 dX12_itemKind_0 rfl ?_
  refine gm_iloadn C 1 1 dX12_itemKind_1 rfl rfl ?_
  refine gm_iloadn C 2 2 dX12_itemKind_2 rfl rfl ?_
  refine gm_callV C (y := yX12_isItem) (as := [.int a1, .int a2]) rfl (by decide) (by decide) (c_isItem l D cI cZ mo ad a1 a2 t _ h) hy_isItem rfl wl_286 cu_isItem dX12_itemKind_3 (Nat.le_of_ble_eq_true rfl) (kI (fun r1 t1 h => ?_))
  obtain ⟨g3, h⟩ := h
  have k19 : ∀ x2 : Int32, x2 = (if r1 = 0 then 0 else (mgA t1 33 a2)) → GM p l e (rmD 8) s m args below meth c 3 D cI cZ mo ad (gm_Q below D cI cZ mo ad (pI Q t) args s) t1 19 [] [.int x2] := by
    intro x2 ex2
    have h := h x2 ex2
    exact gm_iret C E dX12_itemKind_19 ⟨_, rfl, h⟩
  refine gm_if_eq C 18 dX12_itemKind_6 (by decide) (fun c6_1 => ?_) (fun c6_1 => ?_)
  · refine gm_iconst C 0 dX12_itemKind_18 (by decide) ?_
    refine gm_sub [] rfl ?_
    exact k19 _ ((if_pos c6_1).symm)
  · refine gm_aload C 0 dX12_itemKind_9 rfl ?_
    refine gm_getA C 33 (by decide) rfl wf_99 rfl dX12_itemKind_10 ?_
    refine gm_iloadn C 2 2 dX12_itemKind_13 rfl rfl ?_
    refine gm_iald C 33 (by decide) rfl (g3 c6_1) dX12_itemKind_14 ?_
    refine gm_goto C 19 dX12_itemKind_15 (by decide) ?_
    refine gm_sub [] rfl ?_
    exact k19 _ ((if_neg c6_1).symm)
def w_itemBar (a1 a2 : Int32) (t : MS) (Q : Int32 → MS → Prop) : Prop := w_isItem a1 a2 t (fun r1 t1 => ((¬ (r1 = 0)) → mIn 34 a2) ∧ ∀ x2 : Int32, x2 = (if r1 = 0 then 0 else (mgA t1 34 a2)) → Q x2 t1)
set_option maxRecDepth 20000 in
set_option maxHeartbeats 2000000 in
theorem c_itemBar (l : Launch) (D : va_G) (cI cZ : ClassId) (mo : Nat) (ad : Nat → Nat) (a1 a2 : Int32) (t : MS) (Q : Int32 → MS → Prop) (h : w_itemBar a1 a2 t Q) : MetM l yX12_itemBar cX12_itemBar 3 (some .int) 8 [.ref mo, .int a1, .int a2] (pI Q) D cI cZ mo ad t := by
  unfold w_itemBar at h
  refine gm_start (by decide) rfl (Nat.le_of_ble_eq_true rfl) (fun p e s m args below meth c C E => ?_)
  refine gm_aload C 0 dX12_itemBar_0 rfl ?_
  refine gm_iloadn C 1 1 dX12_itemBar_1 rfl rfl ?_
  refine gm_iloadn C 2 2 dX12_itemBar_2 rfl rfl ?_
  refine gm_callV C (y := yX12_isItem) (as := [.int a1, .int a2]) rfl (by decide) (by decide) (c_isItem l D cI cZ mo ad a1 a2 t _ h) hy_isItem rfl wl_286 cu_isItem dX12_itemBar_3 (Nat.le_of_ble_eq_true rfl) (kI (fun r1 t1 h => ?_))
  obtain ⟨g3, h⟩ := h
  have k19 : ∀ x2 : Int32, x2 = (if r1 = 0 then 0 else (mgA t1 34 a2)) → GM p l e (rmD 8) s m args below meth c 3 D cI cZ mo ad (gm_Q below D cI cZ mo ad (pI Q t) args s) t1 19 [] [.int x2] := by
    intro x2 ex2
    have h := h x2 ex2
    exact gm_iret C E dX12_itemBar_19 ⟨_, rfl, h⟩
  refine gm_if_eq C 18 dX12_itemBar_6 (by decide) (fun c6_1 => ?_) (fun c6_1 => ?_)
  · refine gm_iconst C 0 dX12_itemBar_18 (by decide) ?_
    refine gm_sub [] rfl ?_
    exact k19 _ ((if_pos c6_1).symm)
  · refine gm_aload C 0 dX12_itemBar_9 rfl ?_
    refine gm_getA C 34 (by decide) rfl wf_102 rfl dX12_itemBar_10 ?_
    refine gm_iloadn C 2 2 dX12_itemBar_13 rfl rfl ?_
    refine gm_iald C 34 (by decide) rfl (g3 c6_1) dX12_itemBar_14 ?_
    refine gm_goto C 19 dX12_itemBar_15 (by decide) ?_
    refine gm_sub [] rfl ?_
    exact k19 _ ((if_neg c6_1).symm)
def w_itemBars (a1 a2 : Int32) (t : MS) (Q : Int32 → MS → Prop) : Prop := w_isItem a1 a2 t (fun r1 t1 => ((¬ (r1 = 0)) → mIn 35 a2) ∧ ∀ x2 : Int32, x2 = (if r1 = 0 then 0 else (mgA t1 35 a2)) → Q x2 t1)
set_option maxRecDepth 20000 in
set_option maxHeartbeats 2000000 in
theorem c_itemBars (l : Launch) (D : va_G) (cI cZ : ClassId) (mo : Nat) (ad : Nat → Nat) (a1 a2 : Int32) (t : MS) (Q : Int32 → MS → Prop) (h : w_itemBars a1 a2 t Q) : MetM l yX12_itemBars cX12_itemBars 3 (some .int) 8 [.ref mo, .int a1, .int a2] (pI Q) D cI cZ mo ad t := by
  unfold w_itemBars at h
  refine gm_start (by decide) rfl (Nat.le_of_ble_eq_true rfl) (fun p e s m args below meth c C E => ?_)
  refine gm_aload C 0 dX12_itemBars_0 rfl ?_
  refine gm_iloadn C 1 1 dX12_itemBars_1 rfl rfl ?_
  refine gm_iloadn C 2 2 dX12_itemBars_2 rfl rfl ?_
  refine gm_callV C (y := yX12_isItem) (as := [.int a1, .int a2]) rfl (by decide) (by decide) (c_isItem l D cI cZ mo ad a1 a2 t _ h) hy_isItem rfl wl_286 cu_isItem dX12_itemBars_3 (Nat.le_of_ble_eq_true rfl) (kI (fun r1 t1 h => ?_))
  obtain ⟨g3, h⟩ := h
  have k19 : ∀ x2 : Int32, x2 = (if r1 = 0 then 0 else (mgA t1 35 a2)) → GM p l e (rmD 8) s m args below meth c 3 D cI cZ mo ad (gm_Q below D cI cZ mo ad (pI Q t) args s) t1 19 [] [.int x2] := by
    intro x2 ex2
    have h := h x2 ex2
    exact gm_iret C E dX12_itemBars_19 ⟨_, rfl, h⟩
  refine gm_if_eq C 18 dX12_itemBars_6 (by decide) (fun c6_1 => ?_) (fun c6_1 => ?_)
  · refine gm_iconst C 0 dX12_itemBars_18 (by decide) ?_
    refine gm_sub [] rfl ?_
    exact k19 _ ((if_pos c6_1).symm)
  · refine gm_aload C 0 dX12_itemBars_9 rfl ?_
    refine gm_getA C 35 (by decide) rfl wf_105 rfl dX12_itemBars_10 ?_
    refine gm_iloadn C 2 2 dX12_itemBars_13 rfl rfl ?_
    refine gm_iald C 35 (by decide) rfl (g3 c6_1) dX12_itemBars_14 ?_
    refine gm_goto C 19 dX12_itemBars_15 (by decide) ?_
    refine gm_sub [] rfl ?_
    exact k19 _ ((if_neg c6_1).symm)
def w_cue (a1 a2 : Int32) (t : MS) (Q : Int32 → MS → Prop) : Prop := w_isItem a1 a2 t (fun r1 t1 => ((¬ (r1 = 0)) → mIn 36 a2) ∧ ∀ x2 : Int32, x2 = (if r1 = 0 then 0 else (mgA t1 36 a2)) → Q x2 t1)
set_option maxRecDepth 20000 in
set_option maxHeartbeats 2000000 in
theorem c_cue (l : Launch) (D : va_G) (cI cZ : ClassId) (mo : Nat) (ad : Nat → Nat) (a1 a2 : Int32) (t : MS) (Q : Int32 → MS → Prop) (h : w_cue a1 a2 t Q) : MetM l yX12_cue cX12_cue 3 (some .int) 8 [.ref mo, .int a1, .int a2] (pI Q) D cI cZ mo ad t := by
  unfold w_cue at h
  refine gm_start (by decide) rfl (Nat.le_of_ble_eq_true rfl) (fun p e s m args below meth c C E => ?_)
  refine gm_aload C 0 dX12_cue_0 rfl ?_
  refine gm_iloadn C 1 1 dX12_cue_1 rfl rfl ?_
  refine gm_iloadn C 2 2 dX12_cue_2 rfl rfl ?_
  refine gm_callV C (y := yX12_isItem) (as := [.int a1, .int a2]) rfl (by decide) (by decide) (c_isItem l D cI cZ mo ad a1 a2 t _ h) hy_isItem rfl wl_286 cu_isItem dX12_cue_3 (Nat.le_of_ble_eq_true rfl) (kI (fun r1 t1 h => ?_))
  obtain ⟨g3, h⟩ := h
  have k19 : ∀ x2 : Int32, x2 = (if r1 = 0 then 0 else (mgA t1 36 a2)) → GM p l e (rmD 8) s m args below meth c 3 D cI cZ mo ad (gm_Q below D cI cZ mo ad (pI Q t) args s) t1 19 [] [.int x2] := by
    intro x2 ex2
    have h := h x2 ex2
    exact gm_iret C E dX12_cue_19 ⟨_, rfl, h⟩
  refine gm_if_eq C 18 dX12_cue_6 (by decide) (fun c6_1 => ?_) (fun c6_1 => ?_)
  · refine gm_iconst C 0 dX12_cue_18 (by decide) ?_
    refine gm_sub [] rfl ?_
    exact k19 _ ((if_pos c6_1).symm)
  · refine gm_aload C 0 dX12_cue_9 rfl ?_
    refine gm_getA C 36 (by decide) rfl wf_108 rfl dX12_cue_10 ?_
    refine gm_iloadn C 2 2 dX12_cue_13 rfl rfl ?_
    refine gm_iald C 36 (by decide) rfl (g3 c6_1) dX12_cue_14 ?_
    refine gm_goto C 19 dX12_cue_15 (by decide) ?_
    refine gm_sub [] rfl ?_
    exact k19 _ ((if_neg c6_1).symm)
def w_itemWidth (a1 a2 : Int32) (t : MS) (Q : Int32 → MS → Prop) : Prop := w_isItem a1 a2 t (fun r1 t1 => ((¬ (r1 = 0)) → mIn 37 a2) ∧ ∀ x2 : Int32, x2 = (if r1 = 0 then 0 else (mgA t1 37 a2)) → Q x2 t1)
set_option maxRecDepth 20000 in
set_option maxHeartbeats 2000000 in
theorem c_itemWidth (l : Launch) (D : va_G) (cI cZ : ClassId) (mo : Nat) (ad : Nat → Nat) (a1 a2 : Int32) (t : MS) (Q : Int32 → MS → Prop) (h : w_itemWidth a1 a2 t Q) : MetM l yX12_itemWidth cX12_itemWidth 3 (some .int) 8 [.ref mo, .int a1, .int a2] (pI Q) D cI cZ mo ad t := by
  unfold w_itemWidth at h
  refine gm_start (by decide) rfl (Nat.le_of_ble_eq_true rfl) (fun p e s m args below meth c C E => ?_)
  refine gm_aload C 0 dX12_itemWidth_0 rfl ?_
  refine gm_iloadn C 1 1 dX12_itemWidth_1 rfl rfl ?_
  refine gm_iloadn C 2 2 dX12_itemWidth_2 rfl rfl ?_
  refine gm_callV C (y := yX12_isItem) (as := [.int a1, .int a2]) rfl (by decide) (by decide) (c_isItem l D cI cZ mo ad a1 a2 t _ h) hy_isItem rfl wl_286 cu_isItem dX12_itemWidth_3 (Nat.le_of_ble_eq_true rfl) (kI (fun r1 t1 h => ?_))
  obtain ⟨g3, h⟩ := h
  have k19 : ∀ x2 : Int32, x2 = (if r1 = 0 then 0 else (mgA t1 37 a2)) → GM p l e (rmD 8) s m args below meth c 3 D cI cZ mo ad (gm_Q below D cI cZ mo ad (pI Q t) args s) t1 19 [] [.int x2] := by
    intro x2 ex2
    have h := h x2 ex2
    exact gm_iret C E dX12_itemWidth_19 ⟨_, rfl, h⟩
  refine gm_if_eq C 18 dX12_itemWidth_6 (by decide) (fun c6_1 => ?_) (fun c6_1 => ?_)
  · refine gm_iconst C 0 dX12_itemWidth_18 (by decide) ?_
    refine gm_sub [] rfl ?_
    exact k19 _ ((if_pos c6_1).symm)
  · refine gm_aload C 0 dX12_itemWidth_9 rfl ?_
    refine gm_getA C 37 (by decide) rfl wf_111 rfl dX12_itemWidth_10 ?_
    refine gm_iloadn C 2 2 dX12_itemWidth_13 rfl rfl ?_
    refine gm_iald C 37 (by decide) rfl (g3 c6_1) dX12_itemWidth_14 ?_
    refine gm_goto C 19 dX12_itemWidth_15 (by decide) ?_
    refine gm_sub [] rfl ?_
    exact k19 _ ((if_neg c6_1).symm)
def v_badnessOf (a1 a2 : Int32) (t : MS) : Int32 := (if 0 ≤ ((mgI t 21) - a1) then (if a2 = 0 then (((mgI t 21) - a1) * ((mgI t 21) - a1)) else ((((mgI t 21) - a1) * ((mgI t 21) - a1)) / 4)) else (1000000 + (((mgI t 21) - a1) * ((mgI t 21) - a1))))
set_option maxRecDepth 20000 in
theorem c_badnessOf (l : Launch) (D : va_G) (cI cZ : ClassId) (mo : Nat) (ad : Nat → Nat) (a1 a2 : Int32) (t : MS) : MetM l yX12_badnessOf cX12_badnessOf 4 (some .int) 0 [.ref mo, .int a1, .int a2] (pI (fun r t' => (v_badnessOf a1 a2 t) = r ∧ t = t')) D cI cZ mo ad t := by
  refine gm_start (by decide) rfl (Nat.le_of_ble_eq_true rfl) (fun p e s m args below meth c C E => ?_)
  refine gm_aload C 0 dX12_badnessOf_0 rfl ?_
  refine gm_getI C 21 (by decide) rfl wf_68 rfl dX12_badnessOf_1 ?_
  refine gm_iloadn C 1 1 dX12_badnessOf_4 rfl rfl ?_
  refine gm_isub C dX12_badnessOf_5 ?_
  refine gm_istoren C 3 [(3, .int ((mgI t 21) - a1)), (0, .ref mo), (1, .int a1), (2, .int a2)] dX12_badnessOf_6 rfl (by decide) rfl ?_
  refine gm_iloadn C 0 3 dX12_badnessOf_7 rfl rfl ?_
  refine gm_if_ge C 21 dX12_badnessOf_8 (by decide) (fun c8_1 => ?_) (fun c8_1 => ?_)
  · refine gm_iloadn C 3 2 dX12_badnessOf_21 rfl rfl ?_
    refine gm_if_eq C 33 dX12_badnessOf_22 (by decide) (fun c22_2 => ?_) (fun c22_2 => ?_)
    · refine gm_iloadn C 0 3 dX12_badnessOf_33 rfl rfl ?_
      refine gm_iloadn C 0 3 dX12_badnessOf_34 rfl rfl ?_
      refine gm_imul C dX12_badnessOf_35 ?_
      exact gm_iret C E dX12_badnessOf_36 ⟨_, rfl, (Eq.symm (((Eq.trans (if_pos c8_1) (if_pos c22_2))).symm)), rfl⟩
    · refine gm_iloadn C 0 3 dX12_badnessOf_25 rfl rfl ?_
      refine gm_iloadn C 0 3 dX12_badnessOf_26 rfl rfl ?_
      refine gm_imul C dX12_badnessOf_27 ?_
      refine gm_iconst C 4 dX12_badnessOf_28 (by decide) ?_
      refine gm_idiv C dX12_badnessOf_29 (by decide) ?_
      refine gm_goto C 36 dX12_badnessOf_30 (by decide) ?_
      exact gm_iret C E dX12_badnessOf_36 ⟨_, rfl, (Eq.symm (((Eq.trans (if_pos c8_1) (if_neg c22_2))).symm)), rfl⟩
  · refine gm_ldcw C 1000000 w_i2225 dX12_badnessOf_11 ?_
    refine gm_iloadn C 0 3 dX12_badnessOf_14 rfl rfl ?_
    refine gm_iloadn C 0 3 dX12_badnessOf_15 rfl rfl ?_
    refine gm_imul C dX12_badnessOf_16 ?_
    refine gm_iadd C dX12_badnessOf_17 ?_
    refine gm_goto C 36 dX12_badnessOf_18 (by decide) ?_
    exact gm_iret C E dX12_badnessOf_36 ⟨_, rfl, (Eq.symm (((if_neg c8_1)).symm)), rfl⟩
def w_badnessTo_L5 (a1 : Int32) (a2 : Int32) (t : MS) (Q : Int32 → MS → Prop) (K5 : (Int32 × Int32) → Prop) (z5 : Int32 × Int32) : Prop := ((a2 ≤ z5.2) → ((a2 ≤ (a1 + 1)) → (a2 = (mgI t 32)) → mIn 40 a2) ∧ ((a2 ≤ (a1 + 1)) → (¬ (a2 = (mgI t 32))) → mIn 40 a2) ∧ ((¬ (a2 ≤ (a1 + 1))) → (z5.1 ≤ (mgI t 21)) → (a2 = (mgI t 32)) → mIn 40 a2) ∧ ((¬ (a2 ≤ (a1 + 1))) → (z5.1 ≤ (mgI t 21)) → (¬ (a2 = (mgI t 32))) → mIn 40 a2) ∧ ∀ x1 : Int32, x1 = (if a2 ≤ (a1 + 1) then (if a2 = (mgI t 32) then ((v_badnessOf z5.1 1 t) + (mgA t 40 a2)) else ((v_badnessOf z5.1 0 t) + (mgA t 40 a2))) else (if z5.1 ≤ (mgI t 21) then (if a2 = (mgI t 32) then ((v_badnessOf z5.1 1 t) + (mgA t 40 a2)) else ((v_badnessOf z5.1 0 t) + (mgA t 40 a2))) else 100000000)) → Q x1 t) ∧ (¬ (a2 ≤ z5.2) → (mIn 37 z5.2) ∧ ∀ x7 : Int32, x7 = (z5.1 + (mgA t 37 z5.2)) → K5 (x7, (z5.2 + 1)))
def w_badnessTo (a1 a2 : Int32) (t : MS) (Q : Int32 → MS → Prop) : Prop := ∃ n, lp (w_badnessTo_L5 a1 a2 t Q) n (0, a1)
set_option maxRecDepth 20000 in
set_option maxHeartbeats 2000000 in
theorem c_badnessTo (l : Launch) (D : va_G) (cI cZ : ClassId) (mo : Nat) (ad : Nat → Nat) (a1 a2 : Int32) (t : MS) (Q : Int32 → MS → Prop) (h : w_badnessTo a1 a2 t Q) : MetM l yX12_badnessTo cX12_badnessTo 5 (some .int) 1 [.ref mo, .int a1, .int a2] (pI Q) D cI cZ mo ad t := by
  unfold w_badnessTo at h
  refine gm_start (by decide) rfl (Nat.le_of_ble_eq_true rfl) (fun p e s m args below meth c C E => ?_)
  refine gm_iconst C 0 dX12_badnessTo_0 (by decide) ?_
  refine gm_istoren C 3 [(3, .int 0), (0, .ref mo), (1, .int a1), (2, .int a2)] dX12_badnessTo_1 rfl (by decide) rfl ?_
  refine gm_iloadn C 2 1 dX12_badnessTo_2 rfl rfl ?_
  refine gm_istore C [(4, .int a1), (3, .int 0), (0, .ref mo), (1, .int a1), (2, .int a2)] dX12_badnessTo_3 (by decide) rfl ?_
  refine gm_sub [2, 3, 4, 1, 0] rfl ?_
  obtain ⟨n5, h⟩ := h
  have k5 : ∀ (n5 : Nat) (z5 : Int32 × Int32), lp (w_badnessTo_L5 a1 a2 t Q) n5 z5 → GM p l e (rmD 1) s m args below meth c 5 D cI cZ mo ad (gm_Q below D cI cZ mo ad (pI Q t) args s) t 5 [(0, .ref mo), (1, .int a1), (2, .int a2), (3, .int z5.1), (4, .int z5.2)] [] := by
    intro n5
    induction n5 with
    | zero => intro z5 h; exact h.elim
    | succ n5 ih5 =>
      intro z5 h
      have h : w_badnessTo_L5 a1 a2 t Q (lp (w_badnessTo_L5 a1 a2 t Q) n5) z5 := h
      unfold w_badnessTo_L5 at h
      refine gm_iload C 4 dX12_badnessTo_5 rfl ?_
      refine gm_iloadn C 2 2 dX12_badnessTo_7 rfl rfl ?_
      refine gm_icmp_ge C 27 dX12_badnessTo_8 (by decide) (fun c8_1 => ?_) (fun c8_1 => ?_)
      · have h := h.1 c8_1
        refine gm_iloadn C 2 2 dX12_badnessTo_27 rfl rfl ?_
        refine gm_iloadn C 1 1 dX12_badnessTo_28 rfl rfl ?_
        refine gm_iconst C 1 dX12_badnessTo_29 (by decide) ?_
        refine gm_iadd C dX12_badnessTo_30 ?_
        obtain ⟨g2, h⟩ := h
        obtain ⟨g3, h⟩ := h
        obtain ⟨g4, h⟩ := h
        obtain ⟨g5, h⟩ := h
        have k73 : ∀ x1 : Int32, x1 = (if a2 ≤ (a1 + 1) then (if a2 = (mgI t 32) then ((v_badnessOf z5.1 1 t) + (mgA t 40 a2)) else ((v_badnessOf z5.1 0 t) + (mgA t 40 a2))) else (if z5.1 ≤ (mgI t 21) then (if a2 = (mgI t 32) then ((v_badnessOf z5.1 1 t) + (mgA t 40 a2)) else ((v_badnessOf z5.1 0 t) + (mgA t 40 a2))) else 100000000)) → GM p l e (rmD 1) s m args below meth c 5 D cI cZ mo ad (gm_Q below D cI cZ mo ad (pI Q t) args s) t 73 [] [.int x1] := by
          intro x1 ex1
          have h := h x1 ex1
          exact gm_iret C E dX12_badnessTo_73 ⟨_, rfl, h⟩
        refine gm_icmp_le C 48 dX12_badnessTo_31 (by decide) (fun c31_2 => ?_) (fun c31_2 => ?_)
        · refine gm_aload C 0 dX12_badnessTo_48 rfl ?_
          refine gm_iloadn C 3 3 dX12_badnessTo_49 rfl rfl ?_
          refine gm_iloadn C 2 2 dX12_badnessTo_50 rfl rfl ?_
          refine gm_aload C 0 dX12_badnessTo_51 rfl ?_
          refine gm_getI C 32 (by decide) rfl wf_261 rfl dX12_badnessTo_52 ?_
          refine gm_icmp_ne C 62 dX12_badnessTo_55 (by decide) (fun c55_3 => ?_) (fun c55_3 => ?_)
          · refine gm_iconst C 0 dX12_badnessTo_62 (by decide) ?_
            refine gm_callV C (y := yX12_badnessOf) (as := [.int z5.1, .int 0]) rfl (by decide) (by decide) (c_badnessOf l D cI cZ mo ad z5.1 0 t) hy_badnessOf rfl wl_291 cu_badnessOf dX12_badnessTo_63 (Nat.le_of_ble_eq_true rfl) (kP ?_)
            refine gm_aload C 0 dX12_badnessTo_66 rfl ?_
            refine gm_getA C 40 (by decide) rfl wf_117 rfl dX12_badnessTo_67 ?_
            refine gm_iloadn C 2 2 dX12_badnessTo_70 rfl rfl ?_
            refine gm_iald C 40 (by decide) rfl (g3 c31_2 c55_3) dX12_badnessTo_71 ?_
            refine gm_iadd C dX12_badnessTo_72 ?_
            refine gm_sub [] rfl ?_
            exact k73 _ (((Eq.trans (if_pos c31_2) (if_neg c55_3))).symm)
          · refine gm_iconst C 1 dX12_badnessTo_58 (by decide) ?_
            refine gm_goto C 63 dX12_badnessTo_59 (by decide) ?_
            refine gm_callV C (y := yX12_badnessOf) (as := [.int z5.1, .int 1]) rfl (by decide) (by decide) (c_badnessOf l D cI cZ mo ad z5.1 1 t) hy_badnessOf rfl wl_291 cu_badnessOf dX12_badnessTo_63 (Nat.le_of_ble_eq_true rfl) (kP ?_)
            refine gm_aload C 0 dX12_badnessTo_66 rfl ?_
            refine gm_getA C 40 (by decide) rfl wf_117 rfl dX12_badnessTo_67 ?_
            refine gm_iloadn C 2 2 dX12_badnessTo_70 rfl rfl ?_
            refine gm_iald C 40 (by decide) rfl (g2 c31_2 c55_3) dX12_badnessTo_71 ?_
            refine gm_iadd C dX12_badnessTo_72 ?_
            refine gm_sub [] rfl ?_
            exact k73 _ (((Eq.trans (if_pos c31_2) (if_pos c55_3))).symm)
        · refine gm_iloadn C 3 3 dX12_badnessTo_34 rfl rfl ?_
          refine gm_aload C 0 dX12_badnessTo_35 rfl ?_
          refine gm_getI C 21 (by decide) rfl wf_68 rfl dX12_badnessTo_36 ?_
          refine gm_icmp_le C 48 dX12_badnessTo_39 (by decide) (fun c39_4 => ?_) (fun c39_4 => ?_)
          · refine gm_aload C 0 dX12_badnessTo_48 rfl ?_
            refine gm_iloadn C 3 3 dX12_badnessTo_49 rfl rfl ?_
            refine gm_iloadn C 2 2 dX12_badnessTo_50 rfl rfl ?_
            refine gm_aload C 0 dX12_badnessTo_51 rfl ?_
            refine gm_getI C 32 (by decide) rfl wf_261 rfl dX12_badnessTo_52 ?_
            refine gm_icmp_ne C 62 dX12_badnessTo_55 (by decide) (fun c55_5 => ?_) (fun c55_5 => ?_)
            · refine gm_iconst C 0 dX12_badnessTo_62 (by decide) ?_
              refine gm_callV C (y := yX12_badnessOf) (as := [.int z5.1, .int 0]) rfl (by decide) (by decide) (c_badnessOf l D cI cZ mo ad z5.1 0 t) hy_badnessOf rfl wl_291 cu_badnessOf dX12_badnessTo_63 (Nat.le_of_ble_eq_true rfl) (kP ?_)
              refine gm_aload C 0 dX12_badnessTo_66 rfl ?_
              refine gm_getA C 40 (by decide) rfl wf_117 rfl dX12_badnessTo_67 ?_
              refine gm_iloadn C 2 2 dX12_badnessTo_70 rfl rfl ?_
              refine gm_iald C 40 (by decide) rfl (g5 c31_2 c39_4 c55_5) dX12_badnessTo_71 ?_
              refine gm_iadd C dX12_badnessTo_72 ?_
              refine gm_sub [] rfl ?_
              exact k73 _ (((Eq.trans (if_neg c31_2) (Eq.trans (if_pos c39_4) (if_neg c55_5)))).symm)
            · refine gm_iconst C 1 dX12_badnessTo_58 (by decide) ?_
              refine gm_goto C 63 dX12_badnessTo_59 (by decide) ?_
              refine gm_callV C (y := yX12_badnessOf) (as := [.int z5.1, .int 1]) rfl (by decide) (by decide) (c_badnessOf l D cI cZ mo ad z5.1 1 t) hy_badnessOf rfl wl_291 cu_badnessOf dX12_badnessTo_63 (Nat.le_of_ble_eq_true rfl) (kP ?_)
              refine gm_aload C 0 dX12_badnessTo_66 rfl ?_
              refine gm_getA C 40 (by decide) rfl wf_117 rfl dX12_badnessTo_67 ?_
              refine gm_iloadn C 2 2 dX12_badnessTo_70 rfl rfl ?_
              refine gm_iald C 40 (by decide) rfl (g4 c31_2 c39_4 c55_5) dX12_badnessTo_71 ?_
              refine gm_iadd C dX12_badnessTo_72 ?_
              refine gm_sub [] rfl ?_
              exact k73 _ (((Eq.trans (if_neg c31_2) (Eq.trans (if_pos c39_4) (if_pos c55_5)))).symm)
          · refine gm_ldcw C 100000000 w_i2216 dX12_badnessTo_42 ?_
            refine gm_goto C 73 dX12_badnessTo_45 (by decide) ?_
            refine gm_sub [] rfl ?_
            exact k73 _ (((Eq.trans (if_neg c31_2) (if_neg c39_4))).symm)
      · have h := h.2 c8_1
        refine gm_iloadn C 3 3 dX12_badnessTo_11 rfl rfl ?_
        refine gm_aload C 0 dX12_badnessTo_12 rfl ?_
        refine gm_getA C 37 (by decide) rfl wf_111 rfl dX12_badnessTo_13 ?_
        refine gm_iload C 4 dX12_badnessTo_16 rfl ?_
        obtain ⟨g6, h⟩ := h
        refine gm_iald C 37 (by decide) rfl g6 dX12_badnessTo_18 ?_
        refine gm_iadd C dX12_badnessTo_19 ?_
        refine gm_nameI (fun x7 ex7 => ?_)
        have h := h x7 ex7
        refine gm_istoren C 3 [(3, .int x7), (0, .ref mo), (1, .int a1), (2, .int a2), (4, .int z5.2)] dX12_badnessTo_20 rfl (by decide) rfl ?_
        refine gm_iinc C 4 (z5.2 + 1) [(4, .int (z5.2 + 1)), (3, .int x7), (0, .ref mo), (1, .int a1), (2, .int a2)] dX12_badnessTo_21 rfl rfl (by decide) rfl ?_
        refine gm_goto C 5 dX12_badnessTo_24 (by decide) ?_
        refine gm_sub [2, 3, 4, 1, 0] rfl ?_
        have h9 := ih5 (x7, (z5.2 + 1)) h
        exact h9
  exact k5 n5 (0, a1) h
def w_breaksLines_L127 (K94 : (Int32 × MS) → Prop) (z94 : Int32 × MS) (K127 : (Int32 × MS) → Prop) (z127 : Int32 × MS) : Prop := w_badnessTo z94.1 z127.1 z127.2 (fun r11 t11 => (mIn 40 z94.1) ∧ ((r11 = (mgA t11 40 z94.1)) → K94 (z127.1, t11)) ∧ (¬ (r11 = (mgA t11 40 z94.1)) → K127 ((z127.1 + (-1)), t11)))
def w_breaksLines_L94 (Q : MS → Prop) (K94 : (Int32 × MS) → Prop) (z94 : Int32 × MS) : Prop := (((mgI z94.2 32) ≤ z94.1) → (mIn 39 (mgI z94.2 38)) ∧ ∀ t6 : MS, t6 = msA z94.2 39 (mgI z94.2 38) (mgI z94.2 32) → Q t6) ∧ (¬ ((mgI z94.2 32) ≤ z94.1) → (mIn 39 (mgI z94.2 38)) ∧ ∀ t8 : MS, t8 = msA z94.2 39 (mgI z94.2 38) z94.1 → ∀ t9 : MS, t9 = msI t8 38 ((mgI t8 38) + 1) → ∀ x10 : Int32, x10 = (mgI t9 32) → ∃ n, lp (w_breaksLines_L127 K94 z94) n (x10, t9))
def w_breaksLines_L34 (K17 : (Int32 × MS) → Prop) (z17 : Int32 × MS) (K34 : (Int32 × MS) → Prop) (z34 : Int32 × MS) : Prop := (((mgI z34.2 32) < z34.1) → K17 ((z17.1 + (-1)), z34.2)) ∧ (¬ ((mgI z34.2 32) < z34.1) → w_badnessTo z17.1 z34.1 z34.2 (fun r16 t16 => (mIn 40 z17.1) ∧ (((mgA t16 40 z17.1) ≤ r16) → mIn 40 z17.1) ∧ ∀ x18 : Int32, x18 = (if (mgA t16 40 z17.1) ≤ r16 then (mgA t16 40 z17.1) else r16) → (mIn 40 z17.1) ∧ ∀ t21 : MS, t21 = msA t16 40 z17.1 x18 → K34 ((z34.1 + 1), t21)))
def w_breaksLines_L17 (Q : MS → Prop) (K17 : (Int32 × MS) → Prop) (z17 : Int32 × MS) : Prop := ((z17.1 < 0) → ∀ t4 : MS, t4 = msI z17.2 38 0 → ∃ n, lp (w_breaksLines_L94 Q) n (0, t4)) ∧ (¬ (z17.1 < 0) → (mIn 40 z17.1) ∧ ∀ t14 : MS, t14 = msA z17.2 40 z17.1 100000000 → ∀ x15 : Int32, x15 = (z17.1 + 1) → ∃ n, lp (w_breaksLines_L34 K17 z17) n (x15, t14))
def w_breaksLines (t : MS) (Q : MS → Prop) : Prop := (mIn 40 (mgI t 32)) ∧ ∀ t2 : MS, t2 = msA t 40 (mgI t 32) 0 → ∀ x3 : Int32, x3 = ((mgI t2 32) - 1) → ∃ n, lp (w_breaksLines_L17 Q) n (x3, t2)
set_option maxRecDepth 20000 in
set_option maxHeartbeats 2000000 in
theorem c_breaksLines (l : Launch) (D : va_G) (cI cZ : ClassId) (mo : Nat) (ad : Nat → Nat) (t : MS) (Q : MS → Prop) (h : w_breaksLines t Q) : MetM l yX12_breaksLines cX12_breaksLines 4 none 2 [.ref mo] (pV Q) D cI cZ mo ad t := by
  unfold w_breaksLines at h
  refine gm_start (by decide) rfl (Nat.le_of_ble_eq_true rfl) (fun p e s m args below meth c C E => ?_)
  refine gm_aload C 0 dX12_breaksLines_0 rfl ?_
  refine gm_getA C 40 (by decide) rfl wf_117 rfl dX12_breaksLines_1 ?_
  refine gm_aload C 0 dX12_breaksLines_4 rfl ?_
  refine gm_getI C 32 (by decide) rfl wf_261 rfl dX12_breaksLines_5 ?_
  refine gm_iconst C 0 dX12_breaksLines_8 (by decide) ?_
  obtain ⟨g1, h⟩ := h
  refine gm_iast C 40 (by decide) rfl g1 dX12_breaksLines_9 ?_
  refine gm_nameT (fun t2 et2 => ?_)
  have h := h t2 et2
  refine gm_aload C 0 dX12_breaksLines_10 rfl ?_
  refine gm_getI C 32 (by decide) rfl wf_261 rfl dX12_breaksLines_11 ?_
  refine gm_iconst C 1 dX12_breaksLines_14 (by decide) ?_
  refine gm_isub C dX12_breaksLines_15 ?_
  refine gm_nameI (fun x3 ex3 => ?_)
  have h := h x3 ex3
  refine gm_istoren C 1 [(1, .int x3), (0, .ref mo)] dX12_breaksLines_16 rfl (by decide) rfl ?_
  refine gm_sub [1, 0] rfl ?_
  obtain ⟨n17, h⟩ := h
  have k17 : ∀ (n17 : Nat) (z17 : Int32 × MS), lp (w_breaksLines_L17 Q) n17 z17 → GM p l e (rmD 2) s m args below meth c 4 D cI cZ mo ad (gm_Q below D cI cZ mo ad (pV Q t) args s) z17.2 17 [(0, .ref mo), (1, .int z17.1)] [] := by
    intro n17
    induction n17 with
    | zero => intro z17 h; exact h.elim
    | succ n17 ih17 =>
      intro z17 h
      have h : w_breaksLines_L17 Q (lp (w_breaksLines_L17 Q) n17) z17 := h
      unfold w_breaksLines_L17 at h
      refine gm_iloadn C 1 1 dX12_breaksLines_17 rfl rfl ?_
      refine gm_if_lt C 87 dX12_breaksLines_18 (by decide) (fun c18_1 => ?_) (fun c18_1 => ?_)
      · have h := h.1 c18_1
        refine gm_aload C 0 dX12_breaksLines_87 rfl ?_
        refine gm_iconst C 0 dX12_breaksLines_88 (by decide) ?_
        refine gm_putI C 38 (by decide) rfl wf_298 rfl rfl (by decide +kernel) dX12_breaksLines_89 ?_
        refine gm_nameT (fun t4 et4 => ?_)
        have h := h t4 et4
        refine gm_iconst C 0 dX12_breaksLines_92 (by decide) ?_
        refine gm_istoren C 1 [(1, .int 0), (0, .ref mo)] dX12_breaksLines_93 rfl (by decide) rfl ?_
        refine gm_sub [1, 0] rfl ?_
        obtain ⟨n94, h⟩ := h
        have k94 : ∀ (n94 : Nat) (z94 : Int32 × MS), lp (w_breaksLines_L94 Q) n94 z94 → GM p l e (rmD 2) s m args below meth c 4 D cI cZ mo ad (gm_Q below D cI cZ mo ad (pV Q t) args s) z94.2 94 [(0, .ref mo), (1, .int z94.1)] [] := by
          intro n94
          induction n94 with
          | zero => intro z94 h; exact h.elim
          | succ n94 ih94 =>
            intro z94 h
            have h : w_breaksLines_L94 Q (lp (w_breaksLines_L94 Q) n94) z94 := h
            unfold w_breaksLines_L94 at h
            refine gm_iloadn C 1 1 dX12_breaksLines_94 rfl rfl ?_
            refine gm_aload C 0 dX12_breaksLines_95 rfl ?_
            refine gm_getI C 32 (by decide) rfl wf_261 rfl dX12_breaksLines_96 ?_
            refine gm_icmp_ge C 153 dX12_breaksLines_99 (by decide) (fun c99_2 => ?_) (fun c99_2 => ?_)
            · have h := h.1 c99_2
              refine gm_aload C 0 dX12_breaksLines_153 rfl ?_
              refine gm_getA C 39 (by decide) rfl wf_114 rfl dX12_breaksLines_154 ?_
              refine gm_aload C 0 dX12_breaksLines_157 rfl ?_
              refine gm_getI C 38 (by decide) rfl wf_298 rfl dX12_breaksLines_158 ?_
              refine gm_aload C 0 dX12_breaksLines_161 rfl ?_
              refine gm_getI C 32 (by decide) rfl wf_261 rfl dX12_breaksLines_162 ?_
              obtain ⟨g5, h⟩ := h
              refine gm_iast C 39 (by decide) rfl g5 dX12_breaksLines_165 ?_
              refine gm_nameT (fun t6 et6 => ?_)
              have h := h t6 et6
              exact gm_vret C E dX12_breaksLines_166 ⟨rfl, h⟩
            · have h := h.2 c99_2
              refine gm_aload C 0 dX12_breaksLines_102 rfl ?_
              refine gm_getA C 39 (by decide) rfl wf_114 rfl dX12_breaksLines_103 ?_
              refine gm_aload C 0 dX12_breaksLines_106 rfl ?_
              refine gm_getI C 38 (by decide) rfl wf_298 rfl dX12_breaksLines_107 ?_
              refine gm_iloadn C 1 1 dX12_breaksLines_110 rfl rfl ?_
              obtain ⟨g7, h⟩ := h
              refine gm_iast C 39 (by decide) rfl g7 dX12_breaksLines_111 ?_
              refine gm_nameT (fun t8 et8 => ?_)
              have h := h t8 et8
              refine gm_aload C 0 dX12_breaksLines_112 rfl ?_
              refine gm_dup C dX12_breaksLines_113 rfl ?_
              refine gm_getI C 38 (by decide) rfl wf_298 rfl dX12_breaksLines_114 ?_
              refine gm_iconst C 1 dX12_breaksLines_117 (by decide) ?_
              refine gm_iadd C dX12_breaksLines_118 ?_
              refine gm_putI C 38 (by decide) rfl wf_298 rfl rfl (by decide +kernel) dX12_breaksLines_119 ?_
              refine gm_nameT (fun t9 et9 => ?_)
              have h := h t9 et9
              refine gm_aload C 0 dX12_breaksLines_122 rfl ?_
              refine gm_getI C 32 (by decide) rfl wf_261 rfl dX12_breaksLines_123 ?_
              refine gm_nameI (fun x10 ex10 => ?_)
              have h := h x10 ex10
              refine gm_istoren C 2 [(2, .int x10), (0, .ref mo), (1, .int z94.1)] dX12_breaksLines_126 rfl (by decide) rfl ?_
              refine gm_sub [1, 2, 0] rfl ?_
              obtain ⟨n127, h⟩ := h
              have k127 : ∀ (n127 : Nat) (z127 : Int32 × MS), lp (w_breaksLines_L127 (lp (w_breaksLines_L94 Q) n94) z94) n127 z127 → GM p l e (rmD 2) s m args below meth c 4 D cI cZ mo ad (gm_Q below D cI cZ mo ad (pV Q t) args s) z127.2 127 [(0, .ref mo), (1, .int z94.1), (2, .int z127.1)] [] := by
                intro n127
                induction n127 with
                | zero => intro z127 h; exact h.elim
                | succ n127 ih127 =>
                  intro z127 h
                  have h : w_breaksLines_L127 (lp (w_breaksLines_L94 Q) n94) z94 (lp (w_breaksLines_L127 (lp (w_breaksLines_L94 Q) n94) z94) n127) z127 := h
                  unfold w_breaksLines_L127 at h
                  refine gm_aload C 0 dX12_breaksLines_127 rfl ?_
                  refine gm_iloadn C 1 1 dX12_breaksLines_128 rfl rfl ?_
                  refine gm_iloadn C 2 2 dX12_breaksLines_129 rfl rfl ?_
                  refine gm_callV C (y := yX12_badnessTo) (as := [.int z94.1, .int z127.1]) rfl (by decide) (by decide) (c_badnessTo l D cI cZ mo ad z94.1 z127.1 z127.2 _ h) hy_badnessTo rfl wl_295 cu_badnessTo dX12_breaksLines_130 (Nat.le_of_ble_eq_true rfl) (kI (fun r11 t11 h => ?_))
                  refine gm_aload C 0 dX12_breaksLines_133 rfl ?_
                  refine gm_getA C 40 (by decide) rfl wf_117 rfl dX12_breaksLines_134 ?_
                  refine gm_iloadn C 1 1 dX12_breaksLines_137 rfl rfl ?_
                  obtain ⟨g12, h⟩ := h
                  refine gm_iald C 40 (by decide) rfl g12 dX12_breaksLines_138 ?_
                  refine gm_icmp_eq C 148 dX12_breaksLines_139 (by decide) (fun c139_3 => ?_) (fun c139_3 => ?_)
                  · have h := h.1 c139_3
                    refine gm_iloadn C 2 2 dX12_breaksLines_148 rfl rfl ?_
                    refine gm_istoren C 1 [(1, .int z127.1), (0, .ref mo), (2, .int z127.1)] dX12_breaksLines_149 rfl (by decide) rfl ?_
                    refine gm_goto C 94 dX12_breaksLines_150 (by decide) ?_
                    refine gm_sub [1, 0] rfl ?_
                    have h9 := ih94 (z127.1, t11) h
                    exact h9
                  · have h := h.2 c139_3
                    refine gm_iinc C 2 (z127.1 + (-1)) [(2, .int (z127.1 + (-1))), (0, .ref mo), (1, .int z94.1)] dX12_breaksLines_142 rfl rfl (by decide) rfl ?_
                    refine gm_goto C 127 dX12_breaksLines_145 (by decide) ?_
                    refine gm_sub [1, 2, 0] rfl ?_
                    have h9 := ih127 ((z127.1 + (-1)), t11) h
                    exact h9
              exact k127 n127 (x10, t9) h
        exact k94 n94 (0, t4) h
      · have h := h.2 c18_1
        refine gm_aload C 0 dX12_breaksLines_21 rfl ?_
        refine gm_getA C 40 (by decide) rfl wf_117 rfl dX12_breaksLines_22 ?_
        refine gm_iloadn C 1 1 dX12_breaksLines_25 rfl rfl ?_
        refine gm_ldcw C 100000000 w_i2216 dX12_breaksLines_26 ?_
        obtain ⟨g13, h⟩ := h
        refine gm_iast C 40 (by decide) rfl g13 dX12_breaksLines_29 ?_
        refine gm_nameT (fun t14 et14 => ?_)
        have h := h t14 et14
        refine gm_iloadn C 1 1 dX12_breaksLines_30 rfl rfl ?_
        refine gm_iconst C 1 dX12_breaksLines_31 (by decide) ?_
        refine gm_iadd C dX12_breaksLines_32 ?_
        refine gm_nameI (fun x15 ex15 => ?_)
        have h := h x15 ex15
        refine gm_istoren C 2 [(2, .int x15), (0, .ref mo), (1, .int z17.1)] dX12_breaksLines_33 rfl (by decide) rfl ?_
        refine gm_sub [1, 2, 0] rfl ?_
        obtain ⟨n34, h⟩ := h
        have k34 : ∀ (n34 : Nat) (z34 : Int32 × MS), lp (w_breaksLines_L34 (lp (w_breaksLines_L17 Q) n17) z17) n34 z34 → GM p l e (rmD 2) s m args below meth c 4 D cI cZ mo ad (gm_Q below D cI cZ mo ad (pV Q t) args s) z34.2 34 [(0, .ref mo), (1, .int z17.1), (2, .int z34.1)] [] := by
          intro n34
          induction n34 with
          | zero => intro z34 h; exact h.elim
          | succ n34 ih34 =>
            intro z34 h
            have h : w_breaksLines_L34 (lp (w_breaksLines_L17 Q) n17) z17 (lp (w_breaksLines_L34 (lp (w_breaksLines_L17 Q) n17) z17) n34) z34 := h
            unfold w_breaksLines_L34 at h
            refine gm_iloadn C 2 2 dX12_breaksLines_34 rfl rfl ?_
            refine gm_aload C 0 dX12_breaksLines_35 rfl ?_
            refine gm_getI C 32 (by decide) rfl wf_261 rfl dX12_breaksLines_36 ?_
            refine gm_icmp_gt C 81 dX12_breaksLines_39 (by decide) (fun c39_4 => ?_) (fun c39_4 => ?_)
            · have h := h.1 c39_4
              refine gm_iinc C 1 (z17.1 + (-1)) [(1, .int (z17.1 + (-1))), (0, .ref mo), (2, .int z34.1)] dX12_breaksLines_81 rfl rfl (by decide) rfl ?_
              refine gm_goto C 17 dX12_breaksLines_84 (by decide) ?_
              refine gm_sub [1, 0] rfl ?_
              have h9 := ih17 ((z17.1 + (-1)), z34.2) h
              exact h9
            · have h := h.2 c39_4
              refine gm_aload C 0 dX12_breaksLines_42 rfl ?_
              refine gm_iloadn C 1 1 dX12_breaksLines_43 rfl rfl ?_
              refine gm_iloadn C 2 2 dX12_breaksLines_44 rfl rfl ?_
              refine gm_callV C (y := yX12_badnessTo) (as := [.int z17.1, .int z34.1]) rfl (by decide) (by decide) (c_badnessTo l D cI cZ mo ad z17.1 z34.1 z34.2 _ h) hy_badnessTo rfl wl_295 cu_badnessTo dX12_breaksLines_45 (Nat.le_of_ble_eq_true rfl) (kI (fun r16 t16 h => ?_))
              refine gm_istoren C 3 [(3, .int r16), (0, .ref mo), (1, .int z17.1), (2, .int z34.1)] dX12_breaksLines_48 rfl (by decide) rfl ?_
              refine gm_aload C 1 dX12_breaksLines_49 rfl ?_
              refine gm_getA C 40 (by decide) rfl wf_117 rfl dX12_breaksLines_50 ?_
              refine gm_iloadn C 2 1 dX12_breaksLines_53 rfl rfl ?_
              refine gm_iloadn C 0 3 dX12_breaksLines_54 rfl rfl ?_
              refine gm_aload C 1 dX12_breaksLines_55 rfl ?_
              refine gm_getA C 40 (by decide) rfl wf_117 rfl dX12_breaksLines_56 ?_
              refine gm_iloadn C 2 1 dX12_breaksLines_59 rfl rfl ?_
              obtain ⟨g17, h⟩ := h
              refine gm_iald C 40 (by decide) rfl g17 dX12_breaksLines_60 ?_
              obtain ⟨g19, h⟩ := h
              have k74 : ∀ x18 : Int32, x18 = (if (mgA t16 40 z17.1) ≤ r16 then (mgA t16 40 z17.1) else r16) → GM p l e (rmD 2) s m args below meth c 4 D cI cZ mo ad (gm_Q below D cI cZ mo ad (pV Q t) args s) t16 74 [(0, .ref mo), (1, .int z17.1), (2, .int z34.1)] [.int x18, .int z17.1, .ref (ad 40)] := by
                intro x18 ex18
                have h := h x18 ex18
                obtain ⟨g20, h⟩ := h
                refine gm_iast C 40 (by decide) rfl g20 dX12_breaksLines_74 ?_
                refine gm_nameT (fun t21 et21 => ?_)
                have h := h t21 et21
                refine gm_iinc C 2 (z34.1 + 1) [(2, .int (z34.1 + 1)), (0, .ref mo), (1, .int z17.1)] dX12_breaksLines_75 rfl rfl (by decide) rfl ?_
                refine gm_goto C 34 dX12_breaksLines_78 (by decide) ?_
                refine gm_sub [1, 2, 0] rfl ?_
                have h9 := ih34 ((z34.1 + 1), t21) h
                exact h9
              refine gm_icmp_ge C 68 dX12_breaksLines_61 (by decide) (fun c61_5 => ?_) (fun c61_5 => ?_)
              · refine gm_aload C 1 dX12_breaksLines_68 rfl ?_
                refine gm_getA C 40 (by decide) rfl wf_117 rfl dX12_breaksLines_69 ?_
                refine gm_iloadn C 2 1 dX12_breaksLines_72 rfl rfl ?_
                refine gm_iald C 40 (by decide) rfl (g19 c61_5) dX12_breaksLines_73 ?_
                refine gm_sub [1, 2, 3] rfl ?_
                exact k74 _ ((if_pos c61_5).symm)
              · refine gm_iloadn C 0 3 dX12_breaksLines_64 rfl rfl ?_
                refine gm_goto C 74 dX12_breaksLines_65 (by decide) ?_
                refine gm_sub [1, 2, 3] rfl ?_
                exact k74 _ ((if_neg c61_5).symm)
        exact k34 n34 (x15, t14) h
  exact k17 n17 (x3, t2) h
def w_isBroken (a1 : Int32) (t : MS) (Q : Int32 → MS → Prop) : Prop := w_isDrawn a1 t (fun r1 t1 => ∃ J14 : MS → Prop, (∀ t2 : MS, J14 t2 → ((gb r1) ∧ Q r1 t2)) ∧ (((r1 = 0) → J14 t1) ∧ (¬ (r1 = 0) → w_breaksLines t1 (fun t4 => J14 t4))))
set_option maxRecDepth 20000 in
set_option maxHeartbeats 2000000 in
theorem c_isBroken (l : Launch) (D : va_G) (cI cZ : ClassId) (mo : Nat) (ad : Nat → Nat) (a1 : Int32) (t : MS) (Q : Int32 → MS → Prop) (h : w_isBroken a1 t Q) : MetM l yX12_isBroken cX12_isBroken 3 (some .boolean) 7 [.ref mo, .int a1] (pI Q) D cI cZ mo ad t := by
  unfold w_isBroken at h
  refine gm_start (by decide) rfl (Nat.le_of_ble_eq_true rfl) (fun p e s m args below meth c C E => ?_)
  refine gm_aload C 0 dX12_isBroken_0 rfl ?_
  refine gm_iloadn C 1 1 dX12_isBroken_1 rfl rfl ?_
  refine gm_callV C (y := yX12_isDrawn) (as := [.int a1]) rfl (by decide) (by decide) (c_isDrawn l D cI cZ mo ad a1 t _ h) hy_isDrawn rfl wl_283 cu_isDrawn dX12_isBroken_2 (Nat.le_of_ble_eq_true rfl) (kI (fun r1 t1 h => ?_))
  refine gm_istoren C 2 [(2, .int r1), (0, .ref mo), (1, .int a1)] dX12_isBroken_5 rfl (by decide) rfl ?_
  refine gm_iloadn C 0 2 dX12_isBroken_6 rfl rfl ?_
  obtain ⟨J14, hJ14, h⟩ := h
  have k14 : ∀ t2 : MS, J14 t2 → GM p l e (rmD 7) s m args below meth c 3 D cI cZ mo ad (gm_Q below D cI cZ mo ad (pI Q t) args s) t2 14 [(2, .int r1)] [] := by
    intro t2 h
    have h := hJ14 t2 h
    refine gm_iloadn C 0 2 dX12_isBroken_14 rfl rfl ?_
    obtain ⟨g3, h⟩ := h
    exact gm_zret C E g3 dX12_isBroken_15 ⟨_, rfl, h⟩
  refine gm_if_eq C 14 dX12_isBroken_7 (by decide) (fun c7_1 => ?_) (fun c7_1 => ?_)
  · have h := h.1 c7_1
    refine gm_sub [0] rfl ?_
    exact k14 t1 h
  · have h := h.2 c7_1
    refine gm_aload C 1 dX12_isBroken_10 rfl ?_
    refine gm_callV C (y := yX12_breaksLines) (as := []) rfl (by decide) (by decide) (c_breaksLines l D cI cZ mo ad t1 _ h) hy_breaksLines rfl wl_301 cu_breaksLines dX12_isBroken_11 (Nat.le_of_ble_eq_true rfl) (kV (fun t4 h => ?_))
    refine gm_sub [0] rfl ?_
    exact k14 t4 h
def w_lines (a1 : Int32) (t : MS) (Q : Int32 → MS → Prop) : Prop := w_isBroken a1 t (fun r1 t1 => w_goes (v_isVoice a1) r1 1 t1 (fun r2 t2 => ∀ x3 : Int32, x3 = (if r2 = 0 then 0 else (mgI t2 38)) → Q x3 t2))
set_option maxRecDepth 20000 in
set_option maxHeartbeats 2000000 in
theorem c_lines (l : Launch) (D : va_G) (cI cZ : ClassId) (mo : Nat) (ad : Nat → Nat) (a1 : Int32) (t : MS) (Q : Int32 → MS → Prop) (h : w_lines a1 t Q) : MetM l yX12_lines cX12_lines 3 (some .int) 8 [.ref mo, .int a1] (pI Q) D cI cZ mo ad t := by
  unfold w_lines at h
  refine gm_start (by decide) rfl (Nat.le_of_ble_eq_true rfl) (fun p e s m args below meth c C E => ?_)
  refine gm_aload C 0 dX12_lines_0 rfl ?_
  refine gm_iloadn C 1 1 dX12_lines_1 rfl rfl ?_
  refine gm_callV C (y := yX12_isBroken) (as := [.int a1]) rfl (by decide) (by decide) (c_isBroken l D cI cZ mo ad a1 t _ h) hy_isBroken rfl wl_304 cu_isBroken dX12_lines_2 (Nat.le_of_ble_eq_true rfl) (kI (fun r1 t1 h => ?_))
  refine gm_istoren C 2 [(2, .int r1), (0, .ref mo), (1, .int a1)] dX12_lines_5 rfl (by decide) rfl ?_
  refine gm_aload C 1 dX12_lines_6 rfl ?_
  refine gm_iloadn C 2 1 dX12_lines_7 rfl rfl ?_
  refine gm_callS C (y := yX12_isVoice) (as := [.int a1]) rfl (by decide) (by decide) (c_isVoice l D cI cZ mo ad a1 t1) hy_isVoice rfl wl_184 cu_isVoice dX12_lines_8 (Nat.le_of_ble_eq_true rfl) (kP ?_)
  refine gm_iloadn C 0 2 dX12_lines_11 rfl rfl ?_
  refine gm_iconst C 1 dX12_lines_12 (by decide) ?_
  refine gm_callV C (y := yX12_goes) (as := [.int (v_isVoice a1), .int r1, .int 1]) rfl (by decide) (by decide) (c_goes l D cI cZ mo ad (v_isVoice a1) r1 1 t1 _ h) hy_goes rfl wl_165 cu_goes dX12_lines_13 (Nat.le_of_ble_eq_true rfl) (kI (fun r2 t2 h => ?_))
  have k27 : ∀ x3 : Int32, x3 = (if r2 = 0 then 0 else (mgI t2 38)) → GM p l e (rmD 8) s m args below meth c 3 D cI cZ mo ad (gm_Q below D cI cZ mo ad (pI Q t) args s) t2 27 [] [.int x3] := by
    intro x3 ex3
    have h := h x3 ex3
    exact gm_iret C E dX12_lines_27 ⟨_, rfl, h⟩
  refine gm_if_eq C 26 dX12_lines_16 (by decide) (fun c16_1 => ?_) (fun c16_1 => ?_)
  · refine gm_iconst C 0 dX12_lines_26 (by decide) ?_
    refine gm_sub [] rfl ?_
    exact k27 _ ((if_pos c16_1).symm)
  · refine gm_aload C 1 dX12_lines_19 rfl ?_
    refine gm_getI C 38 (by decide) rfl wf_298 rfl dX12_lines_20 ?_
    refine gm_goto C 27 dX12_lines_23 (by decide) ?_
    refine gm_sub [] rfl ?_
    exact k27 _ ((if_neg c16_1).symm)
def w_firstItem (a1 a2 : Int32) (t : MS) (Q : Int32 → MS → Prop) : Prop := w_isBroken a1 t (fun r1 t1 => ∀ x2 : Int32, x2 = (if (¬ (r1 = 0)) ∧ (¬ ((v_in a2 0 ((mgI t1 38) - 1)) = 0)) then 1 else 0) → w_goes (v_isVoice a1) r1 x2 t1 (fun r3 t3 => ((¬ (r3 = 0)) → mIn 39 a2) ∧ ∀ x4 : Int32, x4 = (if r3 = 0 then 0 else (mgA t3 39 a2)) → Q x4 t3))
set_option maxRecDepth 20000 in
set_option maxHeartbeats 2000000 in
theorem c_firstItem (l : Launch) (D : va_G) (cI cZ : ClassId) (mo : Nat) (ad : Nat → Nat) (a1 a2 : Int32) (t : MS) (Q : Int32 → MS → Prop) (h : w_firstItem a1 a2 t Q) : MetM l yX12_firstItem cX12_firstItem 4 (some .int) 8 [.ref mo, .int a1, .int a2] (pI Q) D cI cZ mo ad t := by
  unfold w_firstItem at h
  refine gm_start (by decide) rfl (Nat.le_of_ble_eq_true rfl) (fun p e s m args below meth c C E => ?_)
  refine gm_aload C 0 dX12_firstItem_0 rfl ?_
  refine gm_iloadn C 1 1 dX12_firstItem_1 rfl rfl ?_
  refine gm_callV C (y := yX12_isBroken) (as := [.int a1]) rfl (by decide) (by decide) (c_isBroken l D cI cZ mo ad a1 t _ h) hy_isBroken rfl wl_304 cu_isBroken dX12_firstItem_2 (Nat.le_of_ble_eq_true rfl) (kI (fun r1 t1 h => ?_))
  refine gm_istoren C 3 [(3, .int r1), (0, .ref mo), (1, .int a1), (2, .int a2)] dX12_firstItem_5 rfl (by decide) rfl ?_
  refine gm_aload C 1 dX12_firstItem_6 rfl ?_
  refine gm_iloadn C 2 1 dX12_firstItem_7 rfl rfl ?_
  refine gm_callS C (y := yX12_isVoice) (as := [.int a1]) rfl (by decide) (by decide) (c_isVoice l D cI cZ mo ad a1 t1) hy_isVoice rfl wl_184 cu_isVoice dX12_firstItem_8 (Nat.le_of_ble_eq_true rfl) (kP ?_)
  refine gm_iloadn C 0 3 dX12_firstItem_11 rfl rfl ?_
  refine gm_iloadn C 0 3 dX12_firstItem_12 rfl rfl ?_
  have k35 : ∀ x2 : Int32, x2 = (if (¬ (r1 = 0)) ∧ (¬ ((v_in a2 0 ((mgI t1 38) - 1)) = 0)) then 1 else 0) → GM p l e (rmD 8) s m args below meth c 4 D cI cZ mo ad (gm_Q below D cI cZ mo ad (pI Q t) args s) t1 35 [(0, .ref mo), (2, .int a2)] [.int x2, .int r1, .int (v_isVoice a1), .ref mo] := by
    intro x2 ex2
    have h := h x2 ex2
    refine gm_callV C (y := yX12_goes) (as := [.int (v_isVoice a1), .int r1, .int x2]) rfl (by decide) (by decide) (c_goes l D cI cZ mo ad (v_isVoice a1) r1 x2 t1 _ h) hy_goes rfl wl_165 cu_goes dX12_firstItem_35 (Nat.le_of_ble_eq_true rfl) (kI (fun r3 t3 h => ?_))
    obtain ⟨g5, h⟩ := h
    have k51 : ∀ x4 : Int32, x4 = (if r3 = 0 then 0 else (mgA t3 39 a2)) → GM p l e (rmD 8) s m args below meth c 4 D cI cZ mo ad (gm_Q below D cI cZ mo ad (pI Q t) args s) t3 51 [] [.int x4] := by
      intro x4 ex4
      have h := h x4 ex4
      exact gm_iret C E dX12_firstItem_51 ⟨_, rfl, h⟩
    refine gm_if_eq C 50 dX12_firstItem_38 (by decide) (fun c38_3 => ?_) (fun c38_3 => ?_)
    · refine gm_iconst C 0 dX12_firstItem_50 (by decide) ?_
      refine gm_sub [] rfl ?_
      exact k51 _ ((if_pos c38_3).symm)
    · refine gm_aload C 0 dX12_firstItem_41 rfl ?_
      refine gm_getA C 39 (by decide) rfl wf_114 rfl dX12_firstItem_42 ?_
      refine gm_iloadn C 1 2 dX12_firstItem_45 rfl rfl ?_
      refine gm_iald C 39 (by decide) rfl (g5 c38_3) dX12_firstItem_46 ?_
      refine gm_goto C 51 dX12_firstItem_47 (by decide) ?_
      refine gm_sub [] rfl ?_
      exact k51 _ ((if_neg c38_3).symm)
  refine gm_if_eq C 34 dX12_firstItem_13 (by decide) (fun c13_1 => ?_) (fun c13_1 => ?_)
  · refine gm_iconst C 0 dX12_firstItem_34 (by decide) ?_
    refine gm_sub [1, 3] rfl ?_
    exact k35 _ ((if_neg (fun q0 => q0.1 c13_1)).symm)
  · refine gm_iloadn C 3 2 dX12_firstItem_16 rfl rfl ?_
    refine gm_iconst C 0 dX12_firstItem_17 (by decide) ?_
    refine gm_aload C 1 dX12_firstItem_18 rfl ?_
    refine gm_getI C 38 (by decide) rfl wf_298 rfl dX12_firstItem_19 ?_
    refine gm_iconst C 1 dX12_firstItem_22 (by decide) ?_
    refine gm_isub C dX12_firstItem_23 ?_
    refine gm_callS C (y := yX12_in) (as := [.int a2, .int 0, .int ((mgI t1 38) - 1)]) rfl (by decide) (by decide) (c_in l D cI cZ mo ad a2 0 ((mgI t1 38) - 1) t1) hy_in rfl wl_135 cu_in dX12_firstItem_24 (Nat.le_of_ble_eq_true rfl) (kP ?_)
    refine gm_if_eq C 34 dX12_firstItem_27 (by decide) (fun c27_2 => ?_) (fun c27_2 => ?_)
    · refine gm_iconst C 0 dX12_firstItem_34 (by decide) ?_
      refine gm_sub [1, 3] rfl ?_
      exact k35 _ ((if_neg (fun q0 => (fun q1 => q1 c27_2) q0.2)).symm)
    · refine gm_iconst C 1 dX12_firstItem_30 (by decide) ?_
      refine gm_goto C 35 dX12_firstItem_31 (by decide) ?_
      refine gm_sub [1, 3] rfl ?_
      exact k35 _ ((if_pos ⟨c13_1, c27_2⟩).symm)
def w_badness (a1 : Int32) (t : MS) (Q : Int32 → MS → Prop) : Prop := w_isBroken a1 t (fun r1 t1 => w_goes (v_isVoice a1) r1 1 t1 (fun r2 t2 => ((¬ (r2 = 0)) → mIn 40 0) ∧ ∀ x3 : Int32, x3 = (if r2 = 0 then 0 else (mgA t2 40 0)) → Q x3 t2))
set_option maxRecDepth 20000 in
set_option maxHeartbeats 2000000 in
theorem c_badness (l : Launch) (D : va_G) (cI cZ : ClassId) (mo : Nat) (ad : Nat → Nat) (a1 : Int32) (t : MS) (Q : Int32 → MS → Prop) (h : w_badness a1 t Q) : MetM l yX12_badness cX12_badness 3 (some .int) 8 [.ref mo, .int a1] (pI Q) D cI cZ mo ad t := by
  unfold w_badness at h
  refine gm_start (by decide) rfl (Nat.le_of_ble_eq_true rfl) (fun p e s m args below meth c C E => ?_)
  refine gm_aload C 0 dX12_badness_0 rfl ?_
  refine gm_iloadn C 1 1 dX12_badness_1 rfl rfl ?_
  refine gm_callV C (y := yX12_isBroken) (as := [.int a1]) rfl (by decide) (by decide) (c_isBroken l D cI cZ mo ad a1 t _ h) hy_isBroken rfl wl_304 cu_isBroken dX12_badness_2 (Nat.le_of_ble_eq_true rfl) (kI (fun r1 t1 h => ?_))
  refine gm_istoren C 2 [(2, .int r1), (0, .ref mo), (1, .int a1)] dX12_badness_5 rfl (by decide) rfl ?_
  refine gm_aload C 1 dX12_badness_6 rfl ?_
  refine gm_iloadn C 2 1 dX12_badness_7 rfl rfl ?_
  refine gm_callS C (y := yX12_isVoice) (as := [.int a1]) rfl (by decide) (by decide) (c_isVoice l D cI cZ mo ad a1 t1) hy_isVoice rfl wl_184 cu_isVoice dX12_badness_8 (Nat.le_of_ble_eq_true rfl) (kP ?_)
  refine gm_iloadn C 0 2 dX12_badness_11 rfl rfl ?_
  refine gm_iconst C 1 dX12_badness_12 (by decide) ?_
  refine gm_callV C (y := yX12_goes) (as := [.int (v_isVoice a1), .int r1, .int 1]) rfl (by decide) (by decide) (c_goes l D cI cZ mo ad (v_isVoice a1) r1 1 t1 _ h) hy_goes rfl wl_165 cu_goes dX12_badness_13 (Nat.le_of_ble_eq_true rfl) (kI (fun r2 t2 h => ?_))
  obtain ⟨g4, h⟩ := h
  have k29 : ∀ x3 : Int32, x3 = (if r2 = 0 then 0 else (mgA t2 40 0)) → GM p l e (rmD 8) s m args below meth c 3 D cI cZ mo ad (gm_Q below D cI cZ mo ad (pI Q t) args s) t2 29 [] [.int x3] := by
    intro x3 ex3
    have h := h x3 ex3
    exact gm_iret C E dX12_badness_29 ⟨_, rfl, h⟩
  refine gm_if_eq C 28 dX12_badness_16 (by decide) (fun c16_1 => ?_) (fun c16_1 => ?_)
  · refine gm_iconst C 0 dX12_badness_28 (by decide) ?_
    refine gm_sub [] rfl ?_
    exact k29 _ ((if_pos c16_1).symm)
  · refine gm_aload C 1 dX12_badness_19 rfl ?_
    refine gm_getA C 40 (by decide) rfl wf_117 rfl dX12_badness_20 ?_
    refine gm_iconst C 0 dX12_badness_23 (by decide) ?_
    refine gm_iald C 40 (by decide) rfl (g4 c16_1) dX12_badness_24 ?_
    refine gm_goto C 29 dX12_badness_25 (by decide) ?_
    refine gm_sub [] rfl ?_
    exact k29 _ ((if_neg c16_1).symm)
def v_barAhead (a1 : Int32) (t : MS) : Int32 := (((mgA t 34 ((mgA t 39 a1) - 1)) + (mgA t 35 ((mgA t 39 a1) - 1))) - 1)
def d_barAhead (a1 : Int32) (t : MS) : Prop := (mIn 39 a1) ∧ (mIn 34 ((mgA t 39 a1) - 1)) ∧ (mIn 35 ((mgA t 39 a1) - 1))
set_option maxRecDepth 20000 in
theorem c_barAhead (l : Launch) (D : va_G) (cI cZ : ClassId) (mo : Nat) (ad : Nat → Nat) (a1 : Int32) (t : MS) (h : d_barAhead a1 t) : MetM l yX12_barAhead cX12_barAhead 3 (some .int) 0 [.ref mo, .int a1] (pI (fun r t' => (v_barAhead a1 t) = r ∧ t = t')) D cI cZ mo ad t := by
  obtain ⟨g1, g2, g3⟩ := h
  refine gm_start (by decide) rfl (Nat.le_of_ble_eq_true rfl) (fun p e s m args below meth c C E => ?_)
  refine gm_aload C 0 dX12_barAhead_0 rfl ?_
  refine gm_getA C 39 (by decide) rfl wf_114 rfl dX12_barAhead_1 ?_
  refine gm_iloadn C 1 1 dX12_barAhead_4 rfl rfl ?_
  refine gm_iald C 39 (by decide) rfl (g1) dX12_barAhead_5 ?_
  refine gm_iconst C 1 dX12_barAhead_6 (by decide) ?_
  refine gm_isub C dX12_barAhead_7 ?_
  refine gm_istoren C 2 [(2, .int ((mgA t 39 a1) - 1)), (0, .ref mo), (1, .int a1)] dX12_barAhead_8 rfl (by decide) rfl ?_
  refine gm_aload C 1 dX12_barAhead_9 rfl ?_
  refine gm_getA C 34 (by decide) rfl wf_102 rfl dX12_barAhead_10 ?_
  refine gm_iloadn C 0 2 dX12_barAhead_13 rfl rfl ?_
  refine gm_iald C 34 (by decide) rfl (g2) dX12_barAhead_14 ?_
  refine gm_aload C 1 dX12_barAhead_15 rfl ?_
  refine gm_getA C 35 (by decide) rfl wf_105 rfl dX12_barAhead_16 ?_
  refine gm_iloadn C 0 2 dX12_barAhead_19 rfl rfl ?_
  refine gm_iald C 35 (by decide) rfl (g3) dX12_barAhead_20 ?_
  refine gm_iadd C dX12_barAhead_21 ?_
  refine gm_iconst C 1 dX12_barAhead_22 (by decide) ?_
  refine gm_isub C dX12_barAhead_23 ?_
  exact gm_iret C E dX12_barAhead_24 ⟨_, rfl, (rfl), rfl⟩
def w_timed_L2 (a1 : Int32) (t : MS) (Q : Int32 → MS → Prop) (K2 : Int32 → Prop) (z2 : Int32) : Prop := (mIn 25 z2) ∧ (((mgA t 25 z2) = (a1 + 1)) → (mIn 26 z2) ∧ Q (mgA t 26 z2) t) ∧ (¬ ((mgA t 25 z2) = (a1 + 1)) → K2 (z2 + 1))
def w_timed (a1 : Int32) (t : MS) (Q : Int32 → MS → Prop) : Prop := ∃ n, lp (w_timed_L2 a1 t Q) n 0
set_option maxRecDepth 20000 in
set_option maxHeartbeats 2000000 in
theorem c_timed (l : Launch) (D : va_G) (cI cZ : ClassId) (mo : Nat) (ad : Nat → Nat) (a1 : Int32) (t : MS) (Q : Int32 → MS → Prop) (h : w_timed a1 t Q) : MetM l yX12_timed cX12_timed 3 (some .int) 0 [.ref mo, .int a1] (pI Q) D cI cZ mo ad t := by
  unfold w_timed at h
  refine gm_start (by decide) rfl (Nat.le_of_ble_eq_true rfl) (fun p e s m args below meth c C E => ?_)
  refine gm_iconst C 0 dX12_timed_0 (by decide) ?_
  refine gm_istoren C 2 [(2, .int 0), (0, .ref mo), (1, .int a1)] dX12_timed_1 rfl (by decide) rfl ?_
  refine gm_sub [1, 2, 0] rfl ?_
  obtain ⟨n2, h⟩ := h
  have k2 : ∀ (n2 : Nat) (z2 : Int32), lp (w_timed_L2 a1 t Q) n2 z2 → GM p l e (rmD 0) s m args below meth c 3 D cI cZ mo ad (gm_Q below D cI cZ mo ad (pI Q t) args s) t 2 [(0, .ref mo), (1, .int a1), (2, .int z2)] [] := by
    intro n2
    induction n2 with
    | zero => intro z2 h; exact h.elim
    | succ n2 ih2 =>
      intro z2 h
      have h : w_timed_L2 a1 t Q (lp (w_timed_L2 a1 t Q) n2) z2 := h
      unfold w_timed_L2 at h
      refine gm_aload C 0 dX12_timed_2 rfl ?_
      refine gm_getA C 25 (by decide) rfl wf_78 rfl dX12_timed_3 ?_
      refine gm_iloadn C 2 2 dX12_timed_6 rfl rfl ?_
      obtain ⟨g1, h⟩ := h
      refine gm_iald C 25 (by decide) rfl g1 dX12_timed_7 ?_
      refine gm_iloadn C 1 1 dX12_timed_8 rfl rfl ?_
      refine gm_iconst C 1 dX12_timed_9 (by decide) ?_
      refine gm_iadd C dX12_timed_10 ?_
      refine gm_icmp_eq C 20 dX12_timed_11 (by decide) (fun c11_1 => ?_) (fun c11_1 => ?_)
      · have h := h.1 c11_1
        refine gm_aload C 0 dX12_timed_20 rfl ?_
        refine gm_getA C 26 (by decide) rfl wf_81 rfl dX12_timed_21 ?_
        refine gm_iloadn C 2 2 dX12_timed_24 rfl rfl ?_
        obtain ⟨g2, h⟩ := h
        refine gm_iald C 26 (by decide) rfl g2 dX12_timed_25 ?_
        exact gm_iret C E dX12_timed_26 ⟨_, rfl, h⟩
      · have h := h.2 c11_1
        refine gm_iinc C 2 (z2 + 1) [(2, .int (z2 + 1)), (0, .ref mo), (1, .int a1)] dX12_timed_14 rfl rfl (by decide) rfl ?_
        refine gm_goto C 2 dX12_timed_17 (by decide) ?_
        refine gm_sub [1, 2, 0] rfl ?_
        have h9 := ih2 (z2 + 1) h
        exact h9
  exact k2 n2 0 h
def w_restAt_L81 (a1 : Int32) (Q : Int32 → MS → Prop) (r1 : Int32) (t1 : MS) (z30 : Int32 × Int32) (K81 : (Int32 × Int32) → Prop) (z81 : Int32 × Int32) : Prop := (mIn 27 a1) ∧ (((mgA t1 27 a1) ≤ z81.2) → ∀ x7 : Int32, x7 = (if z81.1 ≤ r1 then (z30.1 - z81.1) else 0) → Q x7 t1) ∧ (¬ ((mgA t1 27 a1) ≤ z81.2) → (mIn 28 ((768 * a1) + z81.2)) ∧ ((¬ (r1 ≤ (mgA t1 28 ((768 * a1) + z81.2)))) → mIn 29 ((768 * a1) + z81.2)) ∧ ∀ x9 : Int32, x9 = (if r1 ≤ (mgA t1 28 ((768 * a1) + z81.2)) then z81.1 else (mgA t1 29 ((768 * a1) + z81.2))) → K81 (x9, (z81.2 + 1)))
def w_restAt_L30 (a1 : Int32) (Q : Int32 → MS → Prop) (r1 : Int32) (t1 : MS) (K30 : (Int32 × Int32) → Prop) (z30 : Int32 × Int32) : Prop := ((z30.2 < 0) → ∃ n, lp (w_restAt_L81 a1 Q r1 t1 z30) n (0, 0)) ∧ (¬ (z30.2 < 0) → (mIn 28 ((768 * a1) + z30.2)) ∧ ((¬ ((mgA t1 28 ((768 * a1) + z30.2)) < r1)) → mIn 28 ((768 * a1) + z30.2)) ∧ ∀ x12 : Int32, x12 = (if (mgA t1 28 ((768 * a1) + z30.2)) < r1 then z30.1 else (mgA t1 28 ((768 * a1) + z30.2))) → K30 (x12, (z30.2 + (-1))))
def w_restAt (a1 a2 : Int32) (t : MS) (Q : Int32 → MS → Prop) : Prop := w_timed a2 t (fun r1 t1 => (mIn 26 (mgI t1 24)) ∧ ∀ x3 : Int32, x3 = (mgA t1 26 (mgI t1 24)) → (mIn 27 a1) ∧ ∀ x5 : Int32, x5 = ((mgA t1 27 a1) - 1) → ∃ n, lp (w_restAt_L30 a1 Q r1 t1) n (x3, x5))
set_option maxRecDepth 20000 in
set_option maxHeartbeats 2000000 in
theorem c_restAt (l : Launch) (D : va_G) (cI cZ : ClassId) (mo : Nat) (ad : Nat → Nat) (a1 a2 : Int32) (t : MS) (Q : Int32 → MS → Prop) (h : w_restAt a1 a2 t Q) : MetM l yX12_restAt cX12_restAt 7 (some .int) 1 [.ref mo, .int a1, .int a2] (pI Q) D cI cZ mo ad t := by
  unfold w_restAt at h
  refine gm_start (by decide) rfl (Nat.le_of_ble_eq_true rfl) (fun p e s m args below meth c C E => ?_)
  refine gm_aload C 0 dX12_restAt_0 rfl ?_
  refine gm_iloadn C 2 2 dX12_restAt_1 rfl rfl ?_
  refine gm_callV C (y := yX12_timed) (as := [.int a2]) rfl (by decide) (by decide) (c_timed l D cI cZ mo ad a2 t _ h) hy_timed rfl wl_307 cu_timed dX12_restAt_2 (Nat.le_of_ble_eq_true rfl) (kI (fun r1 t1 h => ?_))
  refine gm_istoren C 3 [(3, .int r1), (0, .ref mo), (1, .int a1), (2, .int a2)] dX12_restAt_5 rfl (by decide) rfl ?_
  refine gm_iconst C 0 dX12_restAt_6 (by decide) ?_
  refine gm_istore C [(4, .int 0), (3, .int r1), (0, .ref mo), (1, .int a1), (2, .int a2)] dX12_restAt_7 (by decide) rfl ?_
  refine gm_aload C 2 dX12_restAt_9 rfl ?_
  refine gm_getA C 26 (by decide) rfl wf_81 rfl dX12_restAt_10 ?_
  refine gm_aload C 2 dX12_restAt_13 rfl ?_
  refine gm_getI C 24 (by decide) rfl wf_208 rfl dX12_restAt_14 ?_
  obtain ⟨g2, h⟩ := h
  refine gm_iald C 26 (by decide) rfl g2 dX12_restAt_17 ?_
  refine gm_nameI (fun x3 ex3 => ?_)
  have h := h x3 ex3
  refine gm_istore C [(5, .int x3), (4, .int 0), (3, .int r1), (0, .ref mo), (1, .int a1), (2, .int a2)] dX12_restAt_18 (by decide) rfl ?_
  refine gm_aload C 3 dX12_restAt_20 rfl ?_
  refine gm_getA C 27 (by decide) rfl wf_84 rfl dX12_restAt_21 ?_
  refine gm_iloadn C 4 1 dX12_restAt_24 rfl rfl ?_
  obtain ⟨g4, h⟩ := h
  refine gm_iald C 27 (by decide) rfl g4 dX12_restAt_25 ?_
  refine gm_iconst C 1 dX12_restAt_26 (by decide) ?_
  refine gm_isub C dX12_restAt_27 ?_
  refine gm_nameI (fun x5 ex5 => ?_)
  have h := h x5 ex5
  refine gm_istore C [(6, .int x5), (5, .int x3), (4, .int 0), (3, .int r1), (0, .ref mo), (1, .int a1), (2, .int a2)] dX12_restAt_28 (by decide) rfl ?_
  refine gm_sub [4, 5, 3, 2, 1, 0] rfl ?_
  obtain ⟨n30, h⟩ := h
  have k30 : ∀ (n30 : Nat) (z30 : Int32 × Int32), lp (w_restAt_L30 a1 Q r1 t1) n30 z30 → GM p l e (rmD 1) s m args below meth c 7 D cI cZ mo ad (gm_Q below D cI cZ mo ad (pI Q t) args s) t1 30 [(0, .ref mo), (1, .int a1), (3, .int r1), (4, .int 0), (5, .int z30.1), (6, .int z30.2)] [] := by
    intro n30
    induction n30 with
    | zero => intro z30 h; exact h.elim
    | succ n30 ih30 =>
      intro z30 h
      have h : w_restAt_L30 a1 Q r1 t1 (lp (w_restAt_L30 a1 Q r1 t1) n30) z30 := h
      unfold w_restAt_L30 at h
      refine gm_iload C 5 dX12_restAt_30 rfl ?_
      refine gm_if_lt C 78 dX12_restAt_32 (by decide) (fun c32_1 => ?_) (fun c32_1 => ?_)
      · have h := h.1 c32_1
        refine gm_iconst C 0 dX12_restAt_78 (by decide) ?_
        refine gm_istore C [(6, .int 0), (0, .ref mo), (1, .int a1), (3, .int r1), (4, .int 0), (5, .int z30.1)] dX12_restAt_79 (by decide) rfl ?_
        refine gm_sub [1, 2, 3, 4, 5, 0] rfl ?_
        obtain ⟨n81, h⟩ := h
        have k81 : ∀ (n81 : Nat) (z81 : Int32 × Int32), lp (w_restAt_L81 a1 Q r1 t1 z30) n81 z81 → GM p l e (rmD 1) s m args below meth c 7 D cI cZ mo ad (gm_Q below D cI cZ mo ad (pI Q t) args s) t1 81 [(0, .ref mo), (1, .int a1), (3, .int r1), (4, .int z81.1), (5, .int z30.1), (6, .int z81.2)] [] := by
          intro n81
          induction n81 with
          | zero => intro z81 h; exact h.elim
          | succ n81 ih81 =>
            intro z81 h
            have h : w_restAt_L81 a1 Q r1 t1 z30 (lp (w_restAt_L81 a1 Q r1 t1 z30) n81) z81 := h
            unfold w_restAt_L81 at h
            refine gm_iload C 5 dX12_restAt_81 rfl ?_
            refine gm_aload C 0 dX12_restAt_83 rfl ?_
            refine gm_getA C 27 (by decide) rfl wf_84 rfl dX12_restAt_84 ?_
            refine gm_iloadn C 1 1 dX12_restAt_87 rfl rfl ?_
            obtain ⟨g6, h⟩ := h
            refine gm_iald C 27 (by decide) rfl g6 dX12_restAt_88 ?_
            refine gm_icmp_ge C 135 dX12_restAt_89 (by decide) (fun c89_2 => ?_) (fun c89_2 => ?_)
            · have h := h.1 c89_2
              refine gm_iload C 3 dX12_restAt_135 rfl ?_
              refine gm_iloadn C 2 3 dX12_restAt_137 rfl rfl ?_
              have k150 : ∀ x7 : Int32, x7 = (if z81.1 ≤ r1 then (z30.1 - z81.1) else 0) → GM p l e (rmD 1) s m args below meth c 7 D cI cZ mo ad (gm_Q below D cI cZ mo ad (pI Q t) args s) t1 150 [] [.int x7] := by
                intro x7 ex7
                have h := h x7 ex7
                exact gm_iret C E dX12_restAt_150 ⟨_, rfl, h⟩
              refine gm_icmp_le C 145 dX12_restAt_138 (by decide) (fun c138_3 => ?_) (fun c138_3 => ?_)
              · refine gm_iload C 4 dX12_restAt_145 rfl ?_
                refine gm_iload C 3 dX12_restAt_147 rfl ?_
                refine gm_isub C dX12_restAt_149 ?_
                refine gm_sub [] rfl ?_
                exact k150 _ ((if_pos c138_3).symm)
              · refine gm_iconst C 0 dX12_restAt_141 (by decide) ?_
                refine gm_goto C 150 dX12_restAt_142 (by decide) ?_
                refine gm_sub [] rfl ?_
                exact k150 _ ((if_neg c138_3).symm)
            · have h := h.2 c89_2
              refine gm_aload C 0 dX12_restAt_92 rfl ?_
              refine gm_getA C 28 (by decide) rfl wf_87 rfl dX12_restAt_93 ?_
              refine gm_sipush C 768 dX12_restAt_96 (by decide) ?_
              refine gm_iloadn C 1 1 dX12_restAt_99 rfl rfl ?_
              refine gm_imul C dX12_restAt_100 ?_
              refine gm_iload C 5 dX12_restAt_101 rfl ?_
              refine gm_iadd C dX12_restAt_103 ?_
              obtain ⟨g8, h⟩ := h
              refine gm_iald C 28 (by decide) rfl g8 dX12_restAt_104 ?_
              refine gm_iloadn C 2 3 dX12_restAt_105 rfl rfl ?_
              obtain ⟨g10, h⟩ := h
              have k127 : ∀ x9 : Int32, x9 = (if r1 ≤ (mgA t1 28 ((768 * a1) + z81.2)) then z81.1 else (mgA t1 29 ((768 * a1) + z81.2))) → GM p l e (rmD 1) s m args below meth c 7 D cI cZ mo ad (gm_Q below D cI cZ mo ad (pI Q t) args s) t1 127 [(0, .ref mo), (1, .int a1), (3, .int r1), (5, .int z30.1), (6, .int z81.2)] [.int x9] := by
                intro x9 ex9
                have h := h x9 ex9
                refine gm_istore C [(4, .int x9), (0, .ref mo), (1, .int a1), (3, .int r1), (5, .int z30.1), (6, .int z81.2)] dX12_restAt_127 (by decide) rfl ?_
                refine gm_iinc C 5 (z81.2 + 1) [(6, .int (z81.2 + 1)), (4, .int x9), (0, .ref mo), (1, .int a1), (3, .int r1), (5, .int z30.1)] dX12_restAt_129 rfl rfl (by decide) rfl ?_
                refine gm_goto C 81 dX12_restAt_132 (by decide) ?_
                refine gm_sub [2, 3, 4, 1, 5, 0] rfl ?_
                have h9 := ih81 (x9, (z81.2 + 1)) h
                exact h9
              refine gm_icmp_ge C 125 dX12_restAt_106 (by decide) (fun c106_4 => ?_) (fun c106_4 => ?_)
              · refine gm_iload C 3 dX12_restAt_125 rfl ?_
                refine gm_sub [0, 1, 2, 4, 5] rfl ?_
                exact k127 _ ((if_pos c106_4).symm)
              · refine gm_aload C 0 dX12_restAt_109 rfl ?_
                refine gm_getA C 29 (by decide) rfl wf_90 rfl dX12_restAt_110 ?_
                refine gm_sipush C 768 dX12_restAt_113 (by decide) ?_
                refine gm_iloadn C 1 1 dX12_restAt_116 rfl rfl ?_
                refine gm_imul C dX12_restAt_117 ?_
                refine gm_iload C 5 dX12_restAt_118 rfl ?_
                refine gm_iadd C dX12_restAt_120 ?_
                refine gm_iald C 29 (by decide) rfl (g10 c106_4) dX12_restAt_121 ?_
                refine gm_goto C 127 dX12_restAt_122 (by decide) ?_
                refine gm_sub [0, 1, 2, 4, 5] rfl ?_
                exact k127 _ ((if_neg c106_4).symm)
        exact k81 n81 (0, 0) h
      · have h := h.2 c32_1
        refine gm_aload C 0 dX12_restAt_35 rfl ?_
        refine gm_getA C 28 (by decide) rfl wf_87 rfl dX12_restAt_36 ?_
        refine gm_sipush C 768 dX12_restAt_39 (by decide) ?_
        refine gm_iloadn C 1 1 dX12_restAt_42 rfl rfl ?_
        refine gm_imul C dX12_restAt_43 ?_
        refine gm_iload C 5 dX12_restAt_44 rfl ?_
        refine gm_iadd C dX12_restAt_46 ?_
        obtain ⟨g11, h⟩ := h
        refine gm_iald C 28 (by decide) rfl g11 dX12_restAt_47 ?_
        refine gm_iloadn C 2 3 dX12_restAt_48 rfl rfl ?_
        obtain ⟨g13, h⟩ := h
        have k70 : ∀ x12 : Int32, x12 = (if (mgA t1 28 ((768 * a1) + z30.2)) < r1 then z30.1 else (mgA t1 28 ((768 * a1) + z30.2))) → GM p l e (rmD 1) s m args below meth c 7 D cI cZ mo ad (gm_Q below D cI cZ mo ad (pI Q t) args s) t1 70 [(0, .ref mo), (1, .int a1), (3, .int r1), (4, .int 0), (6, .int z30.2)] [.int x12] := by
          intro x12 ex12
          have h := h x12 ex12
          refine gm_istore C [(5, .int x12), (0, .ref mo), (1, .int a1), (3, .int r1), (4, .int 0), (6, .int z30.2)] dX12_restAt_70 (by decide) rfl ?_
          refine gm_iinc C 5 (z30.2 + (-1)) [(6, .int (z30.2 + (-1))), (5, .int x12), (0, .ref mo), (1, .int a1), (3, .int r1), (4, .int 0)] dX12_restAt_72 rfl rfl (by decide) rfl ?_
          refine gm_goto C 30 dX12_restAt_75 (by decide) ?_
          refine gm_sub [2, 3, 4, 5, 1, 0] rfl ?_
          have h9 := ih30 (x12, (z30.2 + (-1))) h
          exact h9
        refine gm_icmp_lt C 68 dX12_restAt_49 (by decide) (fun c49_5 => ?_) (fun c49_5 => ?_)
        · refine gm_iload C 4 dX12_restAt_68 rfl ?_
          refine gm_sub [0, 1, 2, 3, 5] rfl ?_
          exact k70 _ ((if_pos c49_5).symm)
        · refine gm_aload C 0 dX12_restAt_52 rfl ?_
          refine gm_getA C 28 (by decide) rfl wf_87 rfl dX12_restAt_53 ?_
          refine gm_sipush C 768 dX12_restAt_56 (by decide) ?_
          refine gm_iloadn C 1 1 dX12_restAt_59 rfl rfl ?_
          refine gm_imul C dX12_restAt_60 ?_
          refine gm_iload C 5 dX12_restAt_61 rfl ?_
          refine gm_iadd C dX12_restAt_63 ?_
          refine gm_iald C 28 (by decide) rfl (g13 c49_5) dX12_restAt_64 ?_
          refine gm_goto C 70 dX12_restAt_65 (by decide) ?_
          refine gm_sub [0, 1, 2, 3, 5] rfl ?_
          exact k70 _ ((if_neg c49_5).symm)
  exact k30 n30 (x3, x5) h
def w_isInPhrase_L5 (a1 : Int32) (a2 : Int32) (t : MS) (Q : Int32 → MS → Prop) (K5 : (Int32 × Int32) → Prop) (z5 : Int32 × Int32) : Prop := (((mgI t 14) ≤ z5.2) → ((¬ (z5.1 = 0)) → mIn 7 (v_at a1 a2)) ∧ ∀ x1 : Int32, x1 = (if (¬ (z5.1 = 0)) ∧ ((mgA t 7 (v_at a1 a2)) = 0) then 1 else 0) → (gb x1) ∧ Q x1 t) ∧ (¬ ((mgI t 14) ≤ z5.2) → ((z5.1 = 0) → mIn 20 z5.2) ∧ ((z5.1 = 0) → ((mgA t 20 z5.2) = 0) → mIn 15 z5.2) ∧ ((z5.1 = 0) → ((mgA t 20 z5.2) = 0) → ((mgA t 15 z5.2) = a1) → mIn 16 z5.2) ∧ ((z5.1 = 0) → ((mgA t 20 z5.2) = 0) → ((mgA t 15 z5.2) = a1) → (¬ (a2 < (mgA t 16 z5.2))) → mIn 18 z5.2) ∧ ∀ x4 : Int32, x4 = (if (¬ (z5.1 = 0)) ∨ (((mgA t 20 z5.2) = 0) ∧ (((mgA t 15 z5.2) = a1) ∧ ((¬ (a2 < (mgA t 16 z5.2))) ∧ (¬ ((mgA t 18 z5.2) ≤ a2))))) then 1 else 0) → K5 (x4, (z5.2 + 1)))
def w_isInPhrase (a1 a2 : Int32) (t : MS) (Q : Int32 → MS → Prop) : Prop := ∃ n, lp (w_isInPhrase_L5 a1 a2 t Q) n (0, 0)
set_option maxRecDepth 20000 in
set_option maxHeartbeats 2000000 in
theorem c_isInPhrase (l : Launch) (D : va_G) (cI cZ : ClassId) (mo : Nat) (ad : Nat → Nat) (a1 a2 : Int32) (t : MS) (Q : Int32 → MS → Prop) (h : w_isInPhrase a1 a2 t Q) : MetM l yX12_isInPhrase cX12_isInPhrase 5 (some .boolean) 1 [.ref mo, .int a1, .int a2] (pI Q) D cI cZ mo ad t := by
  unfold w_isInPhrase at h
  refine gm_start (by decide) rfl (Nat.le_of_ble_eq_true rfl) (fun p e s m args below meth c C E => ?_)
  refine gm_iconst C 0 dX12_isInPhrase_0 (by decide) ?_
  refine gm_istoren C 3 [(3, .int 0), (0, .ref mo), (1, .int a1), (2, .int a2)] dX12_isInPhrase_1 rfl (by decide) rfl ?_
  refine gm_iconst C 0 dX12_isInPhrase_2 (by decide) ?_
  refine gm_istore C [(4, .int 0), (3, .int 0), (0, .ref mo), (1, .int a1), (2, .int a2)] dX12_isInPhrase_3 (by decide) rfl ?_
  refine gm_sub [2, 3, 4, 1, 0] rfl ?_
  obtain ⟨n5, h⟩ := h
  have k5 : ∀ (n5 : Nat) (z5 : Int32 × Int32), lp (w_isInPhrase_L5 a1 a2 t Q) n5 z5 → GM p l e (rmD 1) s m args below meth c 5 D cI cZ mo ad (gm_Q below D cI cZ mo ad (pI Q t) args s) t 5 [(0, .ref mo), (1, .int a1), (2, .int a2), (3, .int z5.1), (4, .int z5.2)] [] := by
    intro n5
    induction n5 with
    | zero => intro z5 h; exact h.elim
    | succ n5 ih5 =>
      intro z5 h
      have h : w_isInPhrase_L5 a1 a2 t Q (lp (w_isInPhrase_L5 a1 a2 t Q) n5) z5 := h
      unfold w_isInPhrase_L5 at h
      refine gm_iload C 4 dX12_isInPhrase_5 rfl ?_
      refine gm_aload C 0 dX12_isInPhrase_7 rfl ?_
      refine gm_getI C 14 (by decide) rfl wf_181 rfl dX12_isInPhrase_8 ?_
      refine gm_icmp_ge C 73 dX12_isInPhrase_11 (by decide) (fun c11_1 => ?_) (fun c11_1 => ?_)
      · have h := h.1 c11_1
        refine gm_iloadn C 3 3 dX12_isInPhrase_73 rfl rfl ?_
        obtain ⟨g2, h⟩ := h
        have k95 : ∀ x1 : Int32, x1 = (if (¬ (z5.1 = 0)) ∧ ((mgA t 7 (v_at a1 a2)) = 0) then 1 else 0) → GM p l e (rmD 1) s m args below meth c 5 D cI cZ mo ad (gm_Q below D cI cZ mo ad (pI Q t) args s) t 95 [] [.int x1] := by
          intro x1 ex1
          have h := h x1 ex1
          obtain ⟨g3, h⟩ := h
          exact gm_zret C E g3 dX12_isInPhrase_95 ⟨_, rfl, h⟩
        refine gm_if_eq C 94 dX12_isInPhrase_74 (by decide) (fun c74_2 => ?_) (fun c74_2 => ?_)
        · refine gm_iconst C 0 dX12_isInPhrase_94 (by decide) ?_
          refine gm_sub [] rfl ?_
          exact k95 _ ((if_neg (fun q0 => q0.1 c74_2)).symm)
        · refine gm_aload C 0 dX12_isInPhrase_77 rfl ?_
          refine gm_getA C 7 (by decide) rfl wf_28 rfl dX12_isInPhrase_78 ?_
          refine gm_iloadn C 1 1 dX12_isInPhrase_81 rfl rfl ?_
          refine gm_iloadn C 2 2 dX12_isInPhrase_82 rfl rfl ?_
          refine gm_callS C (y := yX12_at) (as := [.int a1, .int a2]) rfl (by decide) (by decide) (c_at l D cI cZ mo ad a1 a2 t) hy_at rfl wl_139 cu_at dX12_isInPhrase_83 (Nat.le_of_ble_eq_true rfl) (kP ?_)
          refine gm_bald C 7 (by decide) rfl (g2 c74_2) dX12_isInPhrase_86 ?_
          refine gm_if_ne C 94 dX12_isInPhrase_87 (by decide) (fun c87_3 => ?_) (fun c87_3 => ?_)
          · refine gm_iconst C 0 dX12_isInPhrase_94 (by decide) ?_
            refine gm_sub [] rfl ?_
            exact k95 _ ((if_neg (fun q0 => c87_3 q0.2)).symm)
          · refine gm_iconst C 1 dX12_isInPhrase_90 (by decide) ?_
            refine gm_goto C 95 dX12_isInPhrase_91 (by decide) ?_
            refine gm_sub [] rfl ?_
            exact k95 _ ((if_pos ⟨c74_2, c87_3⟩).symm)
      · have h := h.2 c11_1
        refine gm_iloadn C 3 3 dX12_isInPhrase_14 rfl rfl ?_
        obtain ⟨g5, h⟩ := h
        obtain ⟨g6, h⟩ := h
        obtain ⟨g7, h⟩ := h
        obtain ⟨g8, h⟩ := h
        have k66 : ∀ x4 : Int32, x4 = (if (¬ (z5.1 = 0)) ∨ (((mgA t 20 z5.2) = 0) ∧ (((mgA t 15 z5.2) = a1) ∧ ((¬ (a2 < (mgA t 16 z5.2))) ∧ (¬ ((mgA t 18 z5.2) ≤ a2))))) then 1 else 0) → GM p l e (rmD 1) s m args below meth c 5 D cI cZ mo ad (gm_Q below D cI cZ mo ad (pI Q t) args s) t 66 [(0, .ref mo), (1, .int a1), (2, .int a2), (4, .int z5.2)] [.int x4] := by
          intro x4 ex4
          have h := h x4 ex4
          refine gm_istoren C 3 [(3, .int x4), (0, .ref mo), (1, .int a1), (2, .int a2), (4, .int z5.2)] dX12_isInPhrase_66 rfl (by decide) rfl ?_
          refine gm_iinc C 4 (z5.2 + 1) [(4, .int (z5.2 + 1)), (3, .int x4), (0, .ref mo), (1, .int a1), (2, .int a2)] dX12_isInPhrase_67 rfl rfl (by decide) rfl ?_
          refine gm_goto C 5 dX12_isInPhrase_70 (by decide) ?_
          refine gm_sub [2, 3, 4, 1, 0] rfl ?_
          have h9 := ih5 (x4, (z5.2 + 1)) h
          exact h9
        refine gm_if_ne C 61 dX12_isInPhrase_15 (by decide) (fun c15_4 => ?_) (fun c15_4 => ?_)
        · refine gm_iconst C 1 dX12_isInPhrase_61 (by decide) ?_
          refine gm_goto C 66 dX12_isInPhrase_62 (by decide) ?_
          refine gm_sub [0, 1, 2, 4] rfl ?_
          exact k66 _ ((if_pos (Or.inl c15_4)).symm)
        · refine gm_aload C 0 dX12_isInPhrase_18 rfl ?_
          refine gm_getA C 20 (by decide) rfl wf_65 rfl dX12_isInPhrase_19 ?_
          refine gm_iload C 4 dX12_isInPhrase_22 rfl ?_
          refine gm_bald C 20 (by decide) rfl (g5 c15_4) dX12_isInPhrase_24 ?_
          refine gm_if_ne C 65 dX12_isInPhrase_25 (by decide) (fun c25_5 => ?_) (fun c25_5 => ?_)
          · refine gm_iconst C 0 dX12_isInPhrase_65 (by decide) ?_
            refine gm_sub [0, 1, 2, 4] rfl ?_
            exact k66 _ ((if_neg (fun q0 => Or.elim q0 (fun r => r c15_4) (fun q1 => c25_5 q1.1))).symm)
          · refine gm_aload C 0 dX12_isInPhrase_28 rfl ?_
            refine gm_getA C 15 (by decide) rfl wf_50 rfl dX12_isInPhrase_29 ?_
            refine gm_iload C 4 dX12_isInPhrase_32 rfl ?_
            refine gm_iald C 15 (by decide) rfl (g6 c15_4 c25_5) dX12_isInPhrase_34 ?_
            refine gm_iloadn C 1 1 dX12_isInPhrase_35 rfl rfl ?_
            refine gm_icmp_ne C 65 dX12_isInPhrase_36 (by decide) (fun c36_6 => ?_) (fun c36_6 => ?_)
            · refine gm_iconst C 0 dX12_isInPhrase_65 (by decide) ?_
              refine gm_sub [0, 1, 2, 4] rfl ?_
              exact k66 _ ((if_neg (fun q0 => Or.elim q0 (fun r => r c15_4) (fun q1 => (fun q2 => c36_6 q2.1) q1.2))).symm)
            · refine gm_aload C 0 dX12_isInPhrase_39 rfl ?_
              refine gm_getA C 16 (by decide) rfl wf_53 rfl dX12_isInPhrase_40 ?_
              refine gm_iload C 4 dX12_isInPhrase_43 rfl ?_
              refine gm_iald C 16 (by decide) rfl (g7 c15_4 c25_5 c36_6) dX12_isInPhrase_45 ?_
              refine gm_iloadn C 2 2 dX12_isInPhrase_46 rfl rfl ?_
              refine gm_icmp_gt C 65 dX12_isInPhrase_47 (by decide) (fun c47_7 => ?_) (fun c47_7 => ?_)
              · refine gm_iconst C 0 dX12_isInPhrase_65 (by decide) ?_
                refine gm_sub [0, 1, 2, 4] rfl ?_
                exact k66 _ ((if_neg (fun q0 => Or.elim q0 (fun r => r c15_4) (fun q1 => (fun q2 => (fun q3 => q3.1 c47_7) q2.2) q1.2))).symm)
              · refine gm_aload C 0 dX12_isInPhrase_50 rfl ?_
                refine gm_getA C 18 (by decide) rfl wf_59 rfl dX12_isInPhrase_51 ?_
                refine gm_iload C 4 dX12_isInPhrase_54 rfl ?_
                refine gm_iald C 18 (by decide) rfl (g8 c15_4 c25_5 c36_6 c47_7) dX12_isInPhrase_56 ?_
                refine gm_iloadn C 2 2 dX12_isInPhrase_57 rfl rfl ?_
                refine gm_icmp_le C 65 dX12_isInPhrase_58 (by decide) (fun c58_8 => ?_) (fun c58_8 => ?_)
                · refine gm_iconst C 0 dX12_isInPhrase_65 (by decide) ?_
                  refine gm_sub [0, 1, 2, 4] rfl ?_
                  exact k66 _ ((if_neg (fun q0 => Or.elim q0 (fun r => r c15_4) (fun q1 => (fun q2 => (fun q3 => (fun q4 => q4 c58_8) q3.2) q2.2) q1.2))).symm)
                · refine gm_iconst C 1 dX12_isInPhrase_61 (by decide) ?_
                  refine gm_goto C 66 dX12_isInPhrase_62 (by decide) ?_
                  refine gm_sub [0, 1, 2, 4] rfl ?_
                  exact k66 _ ((if_pos (Or.inr ⟨c25_5, ⟨c36_6, ⟨c47_7, c58_8⟩⟩⟩)).symm)
  exact k5 n5 (0, 0) h
def v_bestOf (a1 a2 a3 : Int32) (t : MS) : Int32 := (mgA t 43 (((4 * a1) + (2 * a2)) + a3))
def d_bestOf (a1 a2 a3 : Int32) : Prop := (mIn 43 (((4 * a1) + (2 * a2)) + a3))
set_option maxRecDepth 20000 in
theorem c_bestOf (l : Launch) (D : va_G) (cI cZ : ClassId) (mo : Nat) (ad : Nat → Nat) (a1 a2 a3 : Int32) (t : MS) (h : d_bestOf a1 a2 a3) : MetM l yX12_bestOf cX12_bestOf 4 (some .int) 0 [.ref mo, .int a1, .int a2, .int a3] (pI (fun r t' => (v_bestOf a1 a2 a3 t) = r ∧ t = t')) D cI cZ mo ad t := by
  have g1 := h
  refine gm_start (by decide) rfl (Nat.le_of_ble_eq_true rfl) (fun p e s m args below meth c C E => ?_)
  refine gm_aload C 0 dX12_bestOf_0 rfl ?_
  refine gm_getA C 43 (by decide) rfl wf_123 rfl dX12_bestOf_1 ?_
  refine gm_iconst C 4 dX12_bestOf_4 (by decide) ?_
  refine gm_iloadn C 1 1 dX12_bestOf_5 rfl rfl ?_
  refine gm_imul C dX12_bestOf_6 ?_
  refine gm_iconst C 2 dX12_bestOf_7 (by decide) ?_
  refine gm_iloadn C 2 2 dX12_bestOf_8 rfl rfl ?_
  refine gm_imul C dX12_bestOf_9 ?_
  refine gm_iadd C dX12_bestOf_10 ?_
  refine gm_iloadn C 3 3 dX12_bestOf_11 rfl rfl ?_
  refine gm_iadd C dX12_bestOf_12 ?_
  refine gm_iald C 43 (by decide) rfl (g1) dX12_bestOf_13 ?_
  exact gm_iret C E dX12_bestOf_14 ⟨_, rfl, (rfl), rfl⟩
def v_withLines (a1 a2 a3 : Int32) (t : MS) : Int32 := (if (a1 + a3) = (mgI t 38) then 1 else (if a2 = 0 then (((64 * (((100 * ((mgI t 22) - a3)) * ((mgI t 22) - a3)) + (mgA t 44 (a1 + a3)))) + 1) + (v_bestOf (a1 + a3) (1 - a2) 0 t)) else (((64 * (((100 * ((mgI t 22) - a3)) * ((mgI t 22) - a3)) + 0)) + 1) + (v_bestOf (a1 + a3) (1 - a2) 0 t))))
def d_withLines (a1 a2 a3 : Int32) (t : MS) : Prop := ((¬ ((a1 + a3) = (mgI t 38))) → (a2 = 0) → (mIn 44 (a1 + a3))) ∧ ((¬ ((a1 + a3) = (mgI t 38))) → (a2 = 0) → (d_bestOf (a1 + a3) (1 - a2) 0)) ∧ ((¬ ((a1 + a3) = (mgI t 38))) → (¬ (a2 = 0)) → (d_bestOf (a1 + a3) (1 - a2) 0))
set_option maxRecDepth 20000 in
theorem c_withLines (l : Launch) (D : va_G) (cI cZ : ClassId) (mo : Nat) (ad : Nat → Nat) (a1 a2 a3 : Int32) (t : MS) (h : d_withLines a1 a2 a3 t) : MetM l yX12_withLines cX12_withLines 6 (some .int) 1 [.ref mo, .int a1, .int a2, .int a3] (pI (fun r t' => (v_withLines a1 a2 a3 t) = r ∧ t = t')) D cI cZ mo ad t := by
  obtain ⟨g1, g2, g3⟩ := h
  refine gm_start (by decide) rfl (Nat.le_of_ble_eq_true rfl) (fun p e s m args below meth c C E => ?_)
  refine gm_iloadn C 1 1 dX12_withLines_0 rfl rfl ?_
  refine gm_iloadn C 3 3 dX12_withLines_1 rfl rfl ?_
  refine gm_iadd C dX12_withLines_2 ?_
  refine gm_istore C [(4, .int (a1 + a3)), (0, .ref mo), (1, .int a1), (2, .int a2), (3, .int a3)] dX12_withLines_3 (by decide) rfl ?_
  refine gm_aload C 1 dX12_withLines_5 rfl ?_
  refine gm_getI C 22 (by decide) rfl wf_72 rfl dX12_withLines_6 ?_
  refine gm_iloadn C 4 3 dX12_withLines_9 rfl rfl ?_
  refine gm_isub C dX12_withLines_10 ?_
  refine gm_istore C [(5, .int ((mgI t 22) - a3)), (4, .int (a1 + a3)), (0, .ref mo), (1, .int a1), (2, .int a2), (3, .int a3)] dX12_withLines_11 (by decide) rfl ?_
  refine gm_iload C 1 dX12_withLines_13 rfl ?_
  refine gm_aload C 2 dX12_withLines_15 rfl ?_
  refine gm_getI C 38 (by decide) rfl wf_298 rfl dX12_withLines_16 ?_
  refine gm_icmp_ne C 26 dX12_withLines_19 (by decide) (fun c19_1 => ?_) (fun c19_1 => ?_)
  · refine gm_bipush C 64 dX12_withLines_26 (by decide) ?_
    refine gm_bipush C 100 dX12_withLines_28 (by decide) ?_
    refine gm_iload C 0 dX12_withLines_30 rfl ?_
    refine gm_imul C dX12_withLines_32 ?_
    refine gm_iload C 0 dX12_withLines_33 rfl ?_
    refine gm_imul C dX12_withLines_35 ?_
    refine gm_iloadn C 4 2 dX12_withLines_36 rfl rfl ?_
    refine gm_if_ne C 50 dX12_withLines_37 (by decide) (fun c37_2 => ?_) (fun c37_2 => ?_)
    · refine gm_iconst C 0 dX12_withLines_50 (by decide) ?_
      refine gm_iadd C dX12_withLines_51 ?_
      refine gm_imul C dX12_withLines_52 ?_
      refine gm_iconst C 1 dX12_withLines_53 (by decide) ?_
      refine gm_iadd C dX12_withLines_54 ?_
      refine gm_aload C 2 dX12_withLines_55 rfl ?_
      refine gm_iload C 1 dX12_withLines_56 rfl ?_
      refine gm_iconst C 1 dX12_withLines_58 (by decide) ?_
      refine gm_iloadn C 4 2 dX12_withLines_59 rfl rfl ?_
      refine gm_isub C dX12_withLines_60 ?_
      refine gm_iconst C 0 dX12_withLines_61 (by decide) ?_
      refine gm_callV C (y := yX12_bestOf) (as := [.int (a1 + a3), .int (1 - a2), .int 0]) rfl (by decide) (by decide) (c_bestOf l D cI cZ mo ad (a1 + a3) (1 - a2) 0 t (g3 c19_1 c37_2)) hy_bestOf rfl wl_310 cu_bestOf dX12_withLines_62 (Nat.le_of_ble_eq_true rfl) (kP ?_)
      refine gm_iadd C dX12_withLines_65 ?_
      exact gm_iret C E dX12_withLines_66 ⟨_, rfl, (Eq.symm (((Eq.trans (if_neg c19_1) (if_neg c37_2))).symm)), rfl⟩
    · refine gm_aload C 2 dX12_withLines_40 rfl ?_
      refine gm_getA C 44 (by decide) rfl wf_126 rfl dX12_withLines_41 ?_
      refine gm_iload C 1 dX12_withLines_44 rfl ?_
      refine gm_iald C 44 (by decide) rfl (g1 c19_1 c37_2) dX12_withLines_46 ?_
      refine gm_goto C 51 dX12_withLines_47 (by decide) ?_
      refine gm_iadd C dX12_withLines_51 ?_
      refine gm_imul C dX12_withLines_52 ?_
      refine gm_iconst C 1 dX12_withLines_53 (by decide) ?_
      refine gm_iadd C dX12_withLines_54 ?_
      refine gm_aload C 2 dX12_withLines_55 rfl ?_
      refine gm_iload C 1 dX12_withLines_56 rfl ?_
      refine gm_iconst C 1 dX12_withLines_58 (by decide) ?_
      refine gm_iloadn C 4 2 dX12_withLines_59 rfl rfl ?_
      refine gm_isub C dX12_withLines_60 ?_
      refine gm_iconst C 0 dX12_withLines_61 (by decide) ?_
      refine gm_callV C (y := yX12_bestOf) (as := [.int (a1 + a3), .int (1 - a2), .int 0]) rfl (by decide) (by decide) (c_bestOf l D cI cZ mo ad (a1 + a3) (1 - a2) 0 t (g2 c19_1 c37_2)) hy_bestOf rfl wl_310 cu_bestOf dX12_withLines_62 (Nat.le_of_ble_eq_true rfl) (kP ?_)
      refine gm_iadd C dX12_withLines_65 ?_
      exact gm_iret C E dX12_withLines_66 ⟨_, rfl, (Eq.symm (((Eq.trans (if_neg c19_1) (if_pos c37_2))).symm)), rfl⟩
  · refine gm_iconst C 1 dX12_withLines_22 (by decide) ?_
    refine gm_goto C 66 dX12_withLines_23 (by decide) ?_
    exact gm_iret C E dX12_withLines_66 ⟨_, rfl, (Eq.symm (((if_pos c19_1)).symm)), rfl⟩
def v_withBlank (a1 a2 : Int32) (t : MS) : Int32 := (if (a1 ≤ 0) ∨ (¬ (a2 = 0)) then (((64 * (3000 + 0)) + 1) + (v_bestOf a1 (1 - a2) 1 t)) else (((64 * (3000 + (mgA t 44 a1))) + 1) + (v_bestOf a1 (1 - a2) 1 t)))
def d_withBlank (a1 a2 : Int32) : Prop := ((a1 ≤ 0) → (d_bestOf a1 (1 - a2) 1)) ∧ ((¬ (a1 ≤ 0)) → (a2 = 0) → (mIn 44 a1)) ∧ ((¬ (a1 ≤ 0)) → (a2 = 0) → (d_bestOf a1 (1 - a2) 1)) ∧ ((¬ (a1 ≤ 0)) → (¬ (a2 = 0)) → (d_bestOf a1 (1 - a2) 1))
set_option maxRecDepth 20000 in
theorem c_withBlank (l : Launch) (D : va_G) (cI cZ : ClassId) (mo : Nat) (ad : Nat → Nat) (a1 a2 : Int32) (t : MS) (h : d_withBlank a1 a2) : MetM l yX12_withBlank cX12_withBlank 3 (some .int) 1 [.ref mo, .int a1, .int a2] (pI (fun r t' => (v_withBlank a1 a2 t) = r ∧ t = t')) D cI cZ mo ad t := by
  obtain ⟨g1, g2, g3, g4⟩ := h
  refine gm_start (by decide) rfl (Nat.le_of_ble_eq_true rfl) (fun p e s m args below meth c C E => ?_)
  refine gm_bipush C 64 dX12_withBlank_0 (by decide) ?_
  refine gm_sipush C 3000 dX12_withBlank_2 (by decide) ?_
  refine gm_iloadn C 1 1 dX12_withBlank_5 rfl rfl ?_
  refine gm_if_le C 22 dX12_withBlank_6 (by decide) (fun c6_1 => ?_) (fun c6_1 => ?_)
  · refine gm_iconst C 0 dX12_withBlank_22 (by decide) ?_
    refine gm_iadd C dX12_withBlank_23 ?_
    refine gm_imul C dX12_withBlank_24 ?_
    refine gm_iconst C 1 dX12_withBlank_25 (by decide) ?_
    refine gm_iadd C dX12_withBlank_26 ?_
    refine gm_aload C 0 dX12_withBlank_27 rfl ?_
    refine gm_iloadn C 1 1 dX12_withBlank_28 rfl rfl ?_
    refine gm_iconst C 1 dX12_withBlank_29 (by decide) ?_
    refine gm_iloadn C 2 2 dX12_withBlank_30 rfl rfl ?_
    refine gm_isub C dX12_withBlank_31 ?_
    refine gm_iconst C 1 dX12_withBlank_32 (by decide) ?_
    refine gm_callV C (y := yX12_bestOf) (as := [.int a1, .int (1 - a2), .int 1]) rfl (by decide) (by decide) (c_bestOf l D cI cZ mo ad a1 (1 - a2) 1 t (g1 c6_1)) hy_bestOf rfl wl_310 cu_bestOf dX12_withBlank_33 (Nat.le_of_ble_eq_true rfl) (kP ?_)
    refine gm_iadd C dX12_withBlank_36 ?_
    exact gm_iret C E dX12_withBlank_37 ⟨_, rfl, (Eq.symm ((if_pos (Or.inl c6_1)).symm)), rfl⟩
  · refine gm_iloadn C 2 2 dX12_withBlank_9 rfl rfl ?_
    refine gm_if_ne C 22 dX12_withBlank_10 (by decide) (fun c10_2 => ?_) (fun c10_2 => ?_)
    · refine gm_iconst C 0 dX12_withBlank_22 (by decide) ?_
      refine gm_iadd C dX12_withBlank_23 ?_
      refine gm_imul C dX12_withBlank_24 ?_
      refine gm_iconst C 1 dX12_withBlank_25 (by decide) ?_
      refine gm_iadd C dX12_withBlank_26 ?_
      refine gm_aload C 0 dX12_withBlank_27 rfl ?_
      refine gm_iloadn C 1 1 dX12_withBlank_28 rfl rfl ?_
      refine gm_iconst C 1 dX12_withBlank_29 (by decide) ?_
      refine gm_iloadn C 2 2 dX12_withBlank_30 rfl rfl ?_
      refine gm_isub C dX12_withBlank_31 ?_
      refine gm_iconst C 1 dX12_withBlank_32 (by decide) ?_
      refine gm_callV C (y := yX12_bestOf) (as := [.int a1, .int (1 - a2), .int 1]) rfl (by decide) (by decide) (c_bestOf l D cI cZ mo ad a1 (1 - a2) 1 t (g4 c6_1 c10_2)) hy_bestOf rfl wl_310 cu_bestOf dX12_withBlank_33 (Nat.le_of_ble_eq_true rfl) (kP ?_)
      refine gm_iadd C dX12_withBlank_36 ?_
      exact gm_iret C E dX12_withBlank_37 ⟨_, rfl, (Eq.symm ((if_pos (Or.inr c10_2)).symm)), rfl⟩
    · refine gm_aload C 0 dX12_withBlank_13 rfl ?_
      refine gm_getA C 44 (by decide) rfl wf_126 rfl dX12_withBlank_14 ?_
      refine gm_iloadn C 1 1 dX12_withBlank_17 rfl rfl ?_
      refine gm_iald C 44 (by decide) rfl (g2 c6_1 c10_2) dX12_withBlank_18 ?_
      refine gm_goto C 23 dX12_withBlank_19 (by decide) ?_
      refine gm_iadd C dX12_withBlank_23 ?_
      refine gm_imul C dX12_withBlank_24 ?_
      refine gm_iconst C 1 dX12_withBlank_25 (by decide) ?_
      refine gm_iadd C dX12_withBlank_26 ?_
      refine gm_aload C 0 dX12_withBlank_27 rfl ?_
      refine gm_iloadn C 1 1 dX12_withBlank_28 rfl rfl ?_
      refine gm_iconst C 1 dX12_withBlank_29 (by decide) ?_
      refine gm_iloadn C 2 2 dX12_withBlank_30 rfl rfl ?_
      refine gm_isub C dX12_withBlank_31 ?_
      refine gm_iconst C 1 dX12_withBlank_32 (by decide) ?_
      refine gm_callV C (y := yX12_bestOf) (as := [.int a1, .int (1 - a2), .int 1]) rfl (by decide) (by decide) (c_bestOf l D cI cZ mo ad a1 (1 - a2) 1 t (g3 c6_1 c10_2)) hy_bestOf rfl wl_310 cu_bestOf dX12_withBlank_33 (Nat.le_of_ble_eq_true rfl) (kP ?_)
      refine gm_iadd C dX12_withBlank_36 ?_
      exact gm_iret C E dX12_withBlank_37 ⟨_, rfl, (Eq.symm ((if_neg (fun q0 => Or.elim q0 c6_1 (fun q1 => q1 c10_2))).symm)), rfl⟩
def w_weighsPages_L45 (z7 : Int32 × MS) (z13 : Int32 × MS) (K19 : (Int32 × MS) → Prop) (z19 : Int32 × MS) (K45 : (Int32 × Int32) → Prop) (z45 : Int32 × Int32) : Prop := ((((mgI z19.2 22) < z45.2) ∨ ((mgI z19.2 38) < (z7.1 + z45.2))) → (mIn 43 (((4 * z7.1) + (2 * z19.1)) + z13.1)) ∧ ∀ t5 : MS, t5 = msA z19.2 43 (((4 * z7.1) + (2 * z19.1)) + z13.1) z45.1 → K19 ((z19.1 + 1), t5)) ∧ (¬ (((mgI z19.2 22) < z45.2) ∨ ((mgI z19.2 38) < (z7.1 + z45.2))) → (d_withLines z7.1 z19.1 z45.2 z19.2) ∧ ∀ x7 : Int32, x7 = (v_withLines z7.1 z19.1 z45.2 z19.2) → ∀ x8 : Int32, x8 = (if z45.1 ≤ x7 then z45.1 else x7) → K45 (x8, (z45.2 + 1)))
def w_weighsPages_L19 (z7 : Int32 × MS) (K13 : (Int32 × MS) → Prop) (z13 : Int32 × MS) (K19 : (Int32 × MS) → Prop) (z19 : Int32 × MS) : Prop := ((2 ≤ z19.1) → K13 ((z13.1 + (-1)), z19.2)) ∧ (¬ (2 ≤ z19.1) → ((z13.1 = 0) → d_withBlank z7.1 z19.1) ∧ ∀ x2 : Int32, x2 = (if z13.1 = 0 then (v_withBlank z7.1 z19.1 z19.2) else 2000000000) → ∃ n, lp (w_weighsPages_L45 z7 z13 K19 z19) n (x2, 1))
def w_weighsPages_L13 (K7 : (Int32 × MS) → Prop) (z7 : Int32 × MS) (K13 : (Int32 × MS) → Prop) (z13 : Int32 × MS) : Prop := ((z13.1 < 0) → K7 ((z7.1 + (-1)), z13.2)) ∧ (¬ (z13.1 < 0) → ∃ n, lp (w_weighsPages_L19 z7 K13 z13) n (0, z13.2))
def w_weighsPages_L7 (Q : MS → Prop) (K7 : (Int32 × MS) → Prop) (z7 : Int32 × MS) : Prop := ((z7.1 < 0) → Q z7.2) ∧ (¬ (z7.1 < 0) → ∃ n, lp (w_weighsPages_L13 K7 z7) n (1, z7.2))
def w_weighsPages (t : MS) (Q : MS → Prop) : Prop := ∀ x1 : Int32, x1 = ((mgI t 38) - 1) → ∃ n, lp (w_weighsPages_L7 Q) n (x1, t)
set_option maxRecDepth 20000 in
set_option maxHeartbeats 2000000 in
theorem c_weighsPages (l : Launch) (D : va_G) (cI cZ : ClassId) (mo : Nat) (ad : Nat → Nat) (t : MS) (Q : MS → Prop) (h : w_weighsPages t Q) : MetM l yX12_weighsPages cX12_weighsPages 7 none 2 [.ref mo] (pV Q) D cI cZ mo ad t := by
  unfold w_weighsPages at h
  refine gm_start (by decide) rfl (Nat.le_of_ble_eq_true rfl) (fun p e s m args below meth c C E => ?_)
  refine gm_aload C 0 dX12_weighsPages_0 rfl ?_
  refine gm_getI C 38 (by decide) rfl wf_298 rfl dX12_weighsPages_1 ?_
  refine gm_iconst C 1 dX12_weighsPages_4 (by decide) ?_
  refine gm_isub C dX12_weighsPages_5 ?_
  refine gm_nameI (fun x1 ex1 => ?_)
  have h := h x1 ex1
  refine gm_istoren C 1 [(1, .int x1), (0, .ref mo)] dX12_weighsPages_6 rfl (by decide) rfl ?_
  refine gm_sub [1, 0] rfl ?_
  obtain ⟨n7, h⟩ := h
  have k7 : ∀ (n7 : Nat) (z7 : Int32 × MS), lp (w_weighsPages_L7 Q) n7 z7 → GM p l e (rmD 2) s m args below meth c 7 D cI cZ mo ad (gm_Q below D cI cZ mo ad (pV Q t) args s) z7.2 7 [(0, .ref mo), (1, .int z7.1)] [] := by
    intro n7
    induction n7 with
    | zero => intro z7 h; exact h.elim
    | succ n7 ih7 =>
      intro z7 h
      have h : w_weighsPages_L7 Q (lp (w_weighsPages_L7 Q) n7) z7 := h
      unfold w_weighsPages_L7 at h
      refine gm_iloadn C 1 1 dX12_weighsPages_7 rfl rfl ?_
      refine gm_if_lt C 131 dX12_weighsPages_8 (by decide) (fun c8_1 => ?_) (fun c8_1 => ?_)
      · have h := h.1 c8_1
        exact gm_vret C E dX12_weighsPages_131 ⟨rfl, h⟩
      · have h := h.2 c8_1
        refine gm_iconst C 1 dX12_weighsPages_11 (by decide) ?_
        refine gm_istoren C 2 [(2, .int 1), (0, .ref mo), (1, .int z7.1)] dX12_weighsPages_12 rfl (by decide) rfl ?_
        refine gm_sub [1, 2, 0] rfl ?_
        obtain ⟨n13, h⟩ := h
        have k13 : ∀ (n13 : Nat) (z13 : Int32 × MS), lp (w_weighsPages_L13 (lp (w_weighsPages_L7 Q) n7) z7) n13 z13 → GM p l e (rmD 2) s m args below meth c 7 D cI cZ mo ad (gm_Q below D cI cZ mo ad (pV Q t) args s) z13.2 13 [(0, .ref mo), (1, .int z7.1), (2, .int z13.1)] [] := by
          intro n13
          induction n13 with
          | zero => intro z13 h; exact h.elim
          | succ n13 ih13 =>
            intro z13 h
            have h : w_weighsPages_L13 (lp (w_weighsPages_L7 Q) n7) z7 (lp (w_weighsPages_L13 (lp (w_weighsPages_L7 Q) n7) z7) n13) z13 := h
            unfold w_weighsPages_L13 at h
            refine gm_iloadn C 2 2 dX12_weighsPages_13 rfl rfl ?_
            refine gm_if_lt C 125 dX12_weighsPages_14 (by decide) (fun c14_2 => ?_) (fun c14_2 => ?_)
            · have h := h.1 c14_2
              refine gm_iinc C 1 (z7.1 + (-1)) [(1, .int (z7.1 + (-1))), (0, .ref mo), (2, .int z13.1)] dX12_weighsPages_125 rfl rfl (by decide) rfl ?_
              refine gm_goto C 7 dX12_weighsPages_128 (by decide) ?_
              refine gm_sub [1, 0] rfl ?_
              have h9 := ih7 ((z7.1 + (-1)), z13.2) h
              exact h9
            · have h := h.2 c14_2
              refine gm_iconst C 0 dX12_weighsPages_17 (by decide) ?_
              refine gm_istoren C 3 [(3, .int 0), (0, .ref mo), (1, .int z7.1), (2, .int z13.1)] dX12_weighsPages_18 rfl (by decide) rfl ?_
              refine gm_sub [1, 2, 3, 0] rfl ?_
              obtain ⟨n19, h⟩ := h
              have k19 : ∀ (n19 : Nat) (z19 : Int32 × MS), lp (w_weighsPages_L19 z7 (lp (w_weighsPages_L13 (lp (w_weighsPages_L7 Q) n7) z7) n13) z13) n19 z19 → GM p l e (rmD 2) s m args below meth c 7 D cI cZ mo ad (gm_Q below D cI cZ mo ad (pV Q t) args s) z19.2 19 [(0, .ref mo), (1, .int z7.1), (2, .int z13.1), (3, .int z19.1)] [] := by
                intro n19
                induction n19 with
                | zero => intro z19 h; exact h.elim
                | succ n19 ih19 =>
                  intro z19 h
                  have h : w_weighsPages_L19 z7 (lp (w_weighsPages_L13 (lp (w_weighsPages_L7 Q) n7) z7) n13) z13 (lp (w_weighsPages_L19 z7 (lp (w_weighsPages_L13 (lp (w_weighsPages_L7 Q) n7) z7) n13) z13) n19) z19 := h
                  unfold w_weighsPages_L19 at h
                  refine gm_iloadn C 3 3 dX12_weighsPages_19 rfl rfl ?_
                  refine gm_iconst C 2 dX12_weighsPages_20 (by decide) ?_
                  refine gm_icmp_ge C 119 dX12_weighsPages_21 (by decide) (fun c21_3 => ?_) (fun c21_3 => ?_)
                  · have h := h.1 c21_3
                    refine gm_iinc C 2 (z13.1 + (-1)) [(2, .int (z13.1 + (-1))), (0, .ref mo), (1, .int z7.1), (3, .int z19.1)] dX12_weighsPages_119 rfl rfl (by decide) rfl ?_
                    refine gm_goto C 13 dX12_weighsPages_122 (by decide) ?_
                    refine gm_sub [1, 2, 0] rfl ?_
                    have h9 := ih13 ((z13.1 + (-1)), z19.2) h
                    exact h9
                  · have h := h.2 c21_3
                    refine gm_iloadn C 2 2 dX12_weighsPages_24 rfl rfl ?_
                    obtain ⟨g3, h⟩ := h
                    have k40 : ∀ x2 : Int32, x2 = (if z13.1 = 0 then (v_withBlank z7.1 z19.1 z19.2) else 2000000000) → GM p l e (rmD 2) s m args below meth c 7 D cI cZ mo ad (gm_Q below D cI cZ mo ad (pV Q t) args s) z19.2 40 [(0, .ref mo), (1, .int z7.1), (2, .int z13.1), (3, .int z19.1)] [.int x2] := by
                      intro x2 ex2
                      have h := h x2 ex2
                      refine gm_istore C [(4, .int x2), (0, .ref mo), (1, .int z7.1), (2, .int z13.1), (3, .int z19.1)] dX12_weighsPages_40 (by decide) rfl ?_
                      refine gm_iconst C 1 dX12_weighsPages_42 (by decide) ?_
                      refine gm_istore C [(5, .int 1), (4, .int x2), (0, .ref mo), (1, .int z7.1), (2, .int z13.1), (3, .int z19.1)] dX12_weighsPages_43 (by decide) rfl ?_
                      refine gm_sub [2, 3, 4, 5, 1, 0] rfl ?_
                      obtain ⟨n45, h⟩ := h
                      have k45 : ∀ (n45 : Nat) (z45 : Int32 × Int32), lp (w_weighsPages_L45 z7 z13 (lp (w_weighsPages_L19 z7 (lp (w_weighsPages_L13 (lp (w_weighsPages_L7 Q) n7) z7) n13) z13) n19) z19) n45 z45 → GM p l e (rmD 2) s m args below meth c 7 D cI cZ mo ad (gm_Q below D cI cZ mo ad (pV Q t) args s) z19.2 45 [(0, .ref mo), (1, .int z7.1), (2, .int z13.1), (3, .int z19.1), (4, .int z45.1), (5, .int z45.2)] [] := by
                        intro n45
                        induction n45 with
                        | zero => intro z45 h; exact h.elim
                        | succ n45 ih45 =>
                          intro z45 h
                          have h : w_weighsPages_L45 z7 z13 (lp (w_weighsPages_L19 z7 (lp (w_weighsPages_L13 (lp (w_weighsPages_L7 Q) n7) z7) n13) z13) n19) z19 (lp (w_weighsPages_L45 z7 z13 (lp (w_weighsPages_L19 z7 (lp (w_weighsPages_L13 (lp (w_weighsPages_L7 Q) n7) z7) n13) z13) n19) z19) n45) z45 := h
                          unfold w_weighsPages_L45 at h
                          refine gm_iload C 5 dX12_weighsPages_45 rfl ?_
                          refine gm_aload C 0 dX12_weighsPages_47 rfl ?_
                          refine gm_getI C 22 (by decide) rfl wf_72 rfl dX12_weighsPages_48 ?_
                          have kt45 : (((mgI z19.2 22) < z45.2) ∨ ((mgI z19.2 38) < (z7.1 + z45.2))) → GM p l e (rmD 2) s m args below meth c 7 D cI cZ mo ad (gm_Q below D cI cZ mo ad (pV Q t) args s) z19.2 97 [(0, .ref mo), (1, .int z7.1), (2, .int z13.1), (3, .int z19.1), (4, .int z45.1), (5, .int z45.2)] [] := by
                            intro hc
                            have h := h.1 hc
                            refine gm_aload C 0 dX12_weighsPages_97 rfl ?_
                            refine gm_getA C 43 (by decide) rfl wf_123 rfl dX12_weighsPages_98 ?_
                            refine gm_iconst C 4 dX12_weighsPages_101 (by decide) ?_
                            refine gm_iloadn C 1 1 dX12_weighsPages_102 rfl rfl ?_
                            refine gm_imul C dX12_weighsPages_103 ?_
                            refine gm_iconst C 2 dX12_weighsPages_104 (by decide) ?_
                            refine gm_iloadn C 3 3 dX12_weighsPages_105 rfl rfl ?_
                            refine gm_imul C dX12_weighsPages_106 ?_
                            refine gm_iadd C dX12_weighsPages_107 ?_
                            refine gm_iloadn C 2 2 dX12_weighsPages_108 rfl rfl ?_
                            refine gm_iadd C dX12_weighsPages_109 ?_
                            refine gm_iload C 4 dX12_weighsPages_110 rfl ?_
                            obtain ⟨g4, h⟩ := h
                            refine gm_iast C 43 (by decide) rfl g4 dX12_weighsPages_112 ?_
                            refine gm_nameT (fun t5 et5 => ?_)
                            have h := h t5 et5
                            refine gm_iinc C 3 (z19.1 + 1) [(3, .int (z19.1 + 1)), (0, .ref mo), (1, .int z7.1), (2, .int z13.1), (4, .int z45.1), (5, .int z45.2)] dX12_weighsPages_113 rfl rfl (by decide) rfl ?_
                            refine gm_goto C 19 dX12_weighsPages_116 (by decide) ?_
                            refine gm_sub [1, 2, 3, 0] rfl ?_
                            have h9 := ih19 ((z19.1 + 1), t5) h
                            exact h9
                          have kf45 : ¬ (((mgI z19.2 22) < z45.2) ∨ ((mgI z19.2 38) < (z7.1 + z45.2))) → GM p l e (rmD 2) s m args below meth c 7 D cI cZ mo ad (gm_Q below D cI cZ mo ad (pV Q t) args s) z19.2 65 [(0, .ref mo), (1, .int z7.1), (2, .int z13.1), (3, .int z19.1), (4, .int z45.1), (5, .int z45.2)] [] := by
                            intro hc
                            have h := h.2 hc
                            refine gm_aload C 0 dX12_weighsPages_65 rfl ?_
                            refine gm_iloadn C 1 1 dX12_weighsPages_66 rfl rfl ?_
                            refine gm_iloadn C 3 3 dX12_weighsPages_67 rfl rfl ?_
                            refine gm_iload C 5 dX12_weighsPages_68 rfl ?_
                            obtain ⟨g6, h⟩ := h
                            refine gm_callV C (y := yX12_withLines) (as := [.int z7.1, .int z19.1, .int z45.2]) rfl (by decide) (by decide) (c_withLines l D cI cZ mo ad z7.1 z19.1 z45.2 z19.2 g6) hy_withLines rfl wl_317 cu_withLines dX12_weighsPages_70 (Nat.le_of_ble_eq_true rfl) (kP ?_)
                            refine gm_nameI (fun x7 ex7 => ?_)
                            have h := h x7 ex7
                            refine gm_istore C [(6, .int x7), (0, .ref mo), (1, .int z7.1), (2, .int z13.1), (3, .int z19.1), (4, .int z45.1), (5, .int z45.2)] dX12_weighsPages_73 (by decide) rfl ?_
                            refine gm_iload C 0 dX12_weighsPages_75 rfl ?_
                            refine gm_iload C 5 dX12_weighsPages_77 rfl ?_
                            have k89 : ∀ x8 : Int32, x8 = (if z45.1 ≤ x7 then z45.1 else x7) → GM p l e (rmD 2) s m args below meth c 7 D cI cZ mo ad (gm_Q below D cI cZ mo ad (pV Q t) args s) z19.2 89 [(0, .ref mo), (1, .int z7.1), (2, .int z13.1), (3, .int z19.1), (5, .int z45.2)] [.int x8] := by
                              intro x8 ex8
                              have h := h x8 ex8
                              refine gm_istore C [(4, .int x8), (0, .ref mo), (1, .int z7.1), (2, .int z13.1), (3, .int z19.1), (5, .int z45.2)] dX12_weighsPages_89 (by decide) rfl ?_
                              refine gm_iinc C 5 (z45.2 + 1) [(5, .int (z45.2 + 1)), (4, .int x8), (0, .ref mo), (1, .int z7.1), (2, .int z13.1), (3, .int z19.1)] dX12_weighsPages_91 rfl rfl (by decide) rfl ?_
                              refine gm_goto C 45 dX12_weighsPages_94 (by decide) ?_
                              refine gm_sub [2, 3, 4, 5, 1, 0] rfl ?_
                              have h9 := ih45 (x8, (z45.2 + 1)) h
                              exact h9
                            refine gm_icmp_ge C 87 dX12_weighsPages_79 (by decide) (fun c79_7 => ?_) (fun c79_7 => ?_)
                            · refine gm_iload C 5 dX12_weighsPages_87 rfl ?_
                              refine gm_sub [1, 2, 3, 4, 6] rfl ?_
                              exact k89 _ ((if_pos c79_7).symm)
                            · refine gm_iload C 0 dX12_weighsPages_82 rfl ?_
                              refine gm_goto C 89 dX12_weighsPages_84 (by decide) ?_
                              refine gm_sub [1, 2, 3, 4, 6] rfl ?_
                              exact k89 _ ((if_neg c79_7).symm)
                          refine gm_icmp_gt C 97 dX12_weighsPages_51 (by decide) (fun c51_5 => ?_) (fun c51_5 => ?_)
                          · exact kt45 (Or.inl c51_5)
                          · refine gm_iloadn C 1 1 dX12_weighsPages_54 rfl rfl ?_
                            refine gm_iload C 5 dX12_weighsPages_55 rfl ?_
                            refine gm_iadd C dX12_weighsPages_57 ?_
                            refine gm_aload C 0 dX12_weighsPages_58 rfl ?_
                            refine gm_getI C 38 (by decide) rfl wf_298 rfl dX12_weighsPages_59 ?_
                            refine gm_icmp_gt C 97 dX12_weighsPages_62 (by decide) (fun c62_6 => ?_) (fun c62_6 => ?_)
                            · exact kt45 (Or.inr c62_6)
                            · exact kf45 (fun q0 => Or.elim q0 c51_5 c62_6)
                      exact k45 n45 (x2, 1) h
                    refine gm_if_ne C 37 dX12_weighsPages_25 (by decide) (fun c25_4 => ?_) (fun c25_4 => ?_)
                    · refine gm_ldcw C 2000000000 w_i2275 dX12_weighsPages_37 ?_
                      exact k40 _ ((if_neg c25_4).symm)
                    · refine gm_aload C 0 dX12_weighsPages_28 rfl ?_
                      refine gm_iloadn C 1 1 dX12_weighsPages_29 rfl rfl ?_
                      refine gm_iloadn C 3 3 dX12_weighsPages_30 rfl rfl ?_
                      refine gm_callV C (y := yX12_withBlank) (as := [.int z7.1, .int z19.1]) rfl (by decide) (by decide) (c_withBlank l D cI cZ mo ad z7.1 z19.1 z19.2 (g3 c25_4)) hy_withBlank rfl wl_313 cu_withBlank dX12_weighsPages_31 (Nat.le_of_ble_eq_true rfl) (kP ?_)
                      refine gm_goto C 40 dX12_weighsPages_34 (by decide) ?_
                      exact k40 _ ((if_pos c25_4).symm)
              exact k19 n19 (0, z13.2) h
        exact k13 n13 (1, z7.2) h
  exact k7 n7 (x1, t) h
def w_breaksPages_L56 (K13 : (Int32 × Int32 × MS) → Prop) (z13 : Int32 × Int32 × MS) (x3 : Int32) (K56 : Int32 → Prop) (z56 : Int32) : Prop := ((¬ (z56 ≤ 0)) → d_withLines z13.1 x3 z56 z13.2.2) ∧ ((¬ (z56 ≤ 0)) → d_bestOf z13.1 x3 z13.2.1) ∧ (((z56 ≤ 0) ∨ ((v_withLines z13.1 x3 z56 z13.2.2) = (v_bestOf z13.1 x3 z13.2.1 z13.2.2))) → (mIn 42 (mgI z13.2.2 41)) ∧ ∀ t8 : MS, t8 = msA z13.2.2 42 (mgI z13.2.2 41) z56 → ∀ t9 : MS, t9 = msI t8 41 ((mgI t8 41) + 1) → ∀ x10 : Int32, x10 = (z13.1 + z56) → ∀ x11 : Int32, x11 = (if z56 = 0 then 1 else 0) → K13 (x10, x11, t9)) ∧ (¬ ((z56 ≤ 0) ∨ ((v_withLines z13.1 x3 z56 z13.2.2) = (v_bestOf z13.1 x3 z13.2.1 z13.2.2))) → K56 (z56 + (-1)))
def w_breaksPages_L13 (Q : MS → Prop) (K13 : (Int32 × Int32 × MS) → Prop) (z13 : Int32 × Int32 × MS) : Prop := (((mgI z13.2.2 38) ≤ z13.1) → Q z13.2.2) ∧ (¬ ((mgI z13.2.2 38) ≤ z13.1) → ∀ x3 : Int32, x3 = (mRem (mgI z13.2.2 41) 2) → ∀ x4 : Int32, x4 = (if ((mgI z13.2.2 38) - z13.1) ≤ (mgI z13.2.2 22) then ((mgI z13.2.2 38) - z13.1) else (mgI z13.2.2 22)) → ∃ n, lp (w_breaksPages_L56 K13 z13 x3) n x4)
def w_breaksPages (t : MS) (Q : MS → Prop) : Prop := w_weighsPages t (fun t1 => ∀ t2 : MS, t2 = msI t1 41 0 → ∃ n, lp (w_breaksPages_L13 Q) n (0, 0, t2))
set_option maxRecDepth 20000 in
set_option maxHeartbeats 2000000 in
theorem c_breaksPages (l : Launch) (D : va_G) (cI cZ : ClassId) (mo : Nat) (ad : Nat → Nat) (t : MS) (Q : MS → Prop) (h : w_breaksPages t Q) : MetM l yX12_breaksPages cX12_breaksPages 5 none 3 [.ref mo] (pV Q) D cI cZ mo ad t := by
  unfold w_breaksPages at h
  refine gm_start (by decide) rfl (Nat.le_of_ble_eq_true rfl) (fun p e s m args below meth c C E => ?_)
  refine gm_aload C 0 dX12_breaksPages_0 rfl ?_
  refine gm_callV C (y := yX12_weighsPages) (as := []) rfl (by decide) (by decide) (c_weighsPages l D cI cZ mo ad t _ h) hy_weighsPages rfl wl_320 cu_weighsPages dX12_breaksPages_1 (Nat.le_of_ble_eq_true rfl) (kV (fun t1 h => ?_))
  refine gm_aload C 0 dX12_breaksPages_4 rfl ?_
  refine gm_iconst C 0 dX12_breaksPages_5 (by decide) ?_
  refine gm_putI C 41 (by decide) rfl wf_323 rfl rfl (by decide +kernel) dX12_breaksPages_6 ?_
  refine gm_nameT (fun t2 et2 => ?_)
  have h := h t2 et2
  refine gm_iconst C 0 dX12_breaksPages_9 (by decide) ?_
  refine gm_istoren C 1 [(1, .int 0), (0, .ref mo)] dX12_breaksPages_10 rfl (by decide) rfl ?_
  refine gm_iconst C 0 dX12_breaksPages_11 (by decide) ?_
  refine gm_istoren C 2 [(2, .int 0), (1, .int 0), (0, .ref mo)] dX12_breaksPages_12 rfl (by decide) rfl ?_
  refine gm_sub [2, 1, 0] rfl ?_
  obtain ⟨n13, h⟩ := h
  have k13 : ∀ (n13 : Nat) (z13 : Int32 × Int32 × MS), lp (w_breaksPages_L13 Q) n13 z13 → GM p l e (rmD 3) s m args below meth c 5 D cI cZ mo ad (gm_Q below D cI cZ mo ad (pV Q t) args s) z13.2.2 13 [(0, .ref mo), (1, .int z13.1), (2, .int z13.2.1)] [] := by
    intro n13
    induction n13 with
    | zero => intro z13 h; exact h.elim
    | succ n13 ih13 =>
      intro z13 h
      have h : w_breaksPages_L13 Q (lp (w_breaksPages_L13 Q) n13) z13 := h
      unfold w_breaksPages_L13 at h
      refine gm_iloadn C 1 1 dX12_breaksPages_13 rfl rfl ?_
      refine gm_aload C 0 dX12_breaksPages_14 rfl ?_
      refine gm_getI C 38 (by decide) rfl wf_298 rfl dX12_breaksPages_15 ?_
      refine gm_icmp_ge C 125 dX12_breaksPages_18 (by decide) (fun c18_1 => ?_) (fun c18_1 => ?_)
      · have h := h.1 c18_1
        exact gm_vret C E dX12_breaksPages_125 ⟨rfl, h⟩
      · have h := h.2 c18_1
        refine gm_aload C 0 dX12_breaksPages_21 rfl ?_
        refine gm_getI C 41 (by decide) rfl wf_323 rfl dX12_breaksPages_22 ?_
        refine gm_iconst C 2 dX12_breaksPages_25 (by decide) ?_
        refine gm_irem C dX12_breaksPages_26 (by decide) ?_
        refine gm_nameI (fun x3 ex3 => ?_)
        have h := h x3 ex3
        refine gm_istoren C 3 [(3, .int x3), (0, .ref mo), (1, .int z13.1), (2, .int z13.2.1)] dX12_breaksPages_27 rfl (by decide) rfl ?_
        refine gm_aload C 1 dX12_breaksPages_28 rfl ?_
        refine gm_getI C 22 (by decide) rfl wf_72 rfl dX12_breaksPages_29 ?_
        refine gm_aload C 1 dX12_breaksPages_32 rfl ?_
        refine gm_getI C 38 (by decide) rfl wf_298 rfl dX12_breaksPages_33 ?_
        refine gm_iloadn C 2 1 dX12_breaksPages_36 rfl rfl ?_
        refine gm_isub C dX12_breaksPages_37 ?_
        have k54 : ∀ x4 : Int32, x4 = (if ((mgI z13.2.2 38) - z13.1) ≤ (mgI z13.2.2 22) then ((mgI z13.2.2 38) - z13.1) else (mgI z13.2.2 22)) → GM p l e (rmD 3) s m args below meth c 5 D cI cZ mo ad (gm_Q below D cI cZ mo ad (pV Q t) args s) z13.2.2 54 [(0, .ref mo), (1, .int z13.1), (2, .int z13.2.1), (3, .int x3)] [.int x4] := by
          intro x4 ex4
          have h := h x4 ex4
          refine gm_istore C [(4, .int x4), (0, .ref mo), (1, .int z13.1), (2, .int z13.2.1), (3, .int x3)] dX12_breaksPages_54 (by decide) rfl ?_
          refine gm_sub [1, 2, 3, 4, 0] rfl ?_
          obtain ⟨n56, h⟩ := h
          have k56 : ∀ (n56 : Nat) (z56 : Int32), lp (w_breaksPages_L56 (lp (w_breaksPages_L13 Q) n13) z13 x3) n56 z56 → GM p l e (rmD 3) s m args below meth c 5 D cI cZ mo ad (gm_Q below D cI cZ mo ad (pV Q t) args s) z13.2.2 56 [(0, .ref mo), (1, .int z13.1), (2, .int z13.2.1), (3, .int x3), (4, .int z56)] [] := by
            intro n56
            induction n56 with
            | zero => intro z56 h; exact h.elim
            | succ n56 ih56 =>
              intro z56 h
              have h : w_breaksPages_L56 (lp (w_breaksPages_L13 Q) n13) z13 x3 (lp (w_breaksPages_L56 (lp (w_breaksPages_L13 Q) n13) z13 x3) n56) z56 := h
              unfold w_breaksPages_L56 at h
              refine gm_iload C 4 dX12_breaksPages_56 rfl ?_
              obtain ⟨g5, h⟩ := h
              obtain ⟨g6, h⟩ := h
              have kt56 : ((z56 ≤ 0) ∨ ((v_withLines z13.1 x3 z56 z13.2.2) = (v_bestOf z13.1 x3 z13.2.1 z13.2.2))) → GM p l e (rmD 3) s m args below meth c 5 D cI cZ mo ad (gm_Q below D cI cZ mo ad (pV Q t) args s) z13.2.2 85 [(0, .ref mo), (1, .int z13.1), (2, .int z13.2.1), (3, .int x3), (4, .int z56)] [] := by
                intro hc
                have h := h.1 hc
                refine gm_aload C 0 dX12_breaksPages_85 rfl ?_
                refine gm_getA C 42 (by decide) rfl wf_120 rfl dX12_breaksPages_86 ?_
                refine gm_aload C 0 dX12_breaksPages_89 rfl ?_
                refine gm_getI C 41 (by decide) rfl wf_323 rfl dX12_breaksPages_90 ?_
                refine gm_iload C 4 dX12_breaksPages_93 rfl ?_
                obtain ⟨g7, h⟩ := h
                refine gm_iast C 42 (by decide) rfl g7 dX12_breaksPages_95 ?_
                refine gm_nameT (fun t8 et8 => ?_)
                have h := h t8 et8
                refine gm_aload C 0 dX12_breaksPages_96 rfl ?_
                refine gm_dup C dX12_breaksPages_97 rfl ?_
                refine gm_getI C 41 (by decide) rfl wf_323 rfl dX12_breaksPages_98 ?_
                refine gm_iconst C 1 dX12_breaksPages_101 (by decide) ?_
                refine gm_iadd C dX12_breaksPages_102 ?_
                refine gm_putI C 41 (by decide) rfl wf_323 rfl rfl (by decide +kernel) dX12_breaksPages_103 ?_
                refine gm_nameT (fun t9 et9 => ?_)
                have h := h t9 et9
                refine gm_iloadn C 1 1 dX12_breaksPages_106 rfl rfl ?_
                refine gm_iload C 4 dX12_breaksPages_107 rfl ?_
                refine gm_iadd C dX12_breaksPages_109 ?_
                refine gm_nameI (fun x10 ex10 => ?_)
                have h := h x10 ex10
                refine gm_istoren C 1 [(1, .int x10), (0, .ref mo), (2, .int z13.2.1), (3, .int x3), (4, .int z56)] dX12_breaksPages_110 rfl (by decide) rfl ?_
                refine gm_iload C 4 dX12_breaksPages_111 rfl ?_
                have k121 : ∀ x11 : Int32, x11 = (if z56 = 0 then 1 else 0) → GM p l e (rmD 3) s m args below meth c 5 D cI cZ mo ad (gm_Q below D cI cZ mo ad (pV Q t) args s) t9 121 [(0, .ref mo), (1, .int x10)] [.int x11] := by
                  intro x11 ex11
                  have h := h x11 ex11
                  refine gm_istoren C 2 [(2, .int x11), (0, .ref mo), (1, .int x10)] dX12_breaksPages_121 rfl (by decide) rfl ?_
                  refine gm_goto C 13 dX12_breaksPages_122 (by decide) ?_
                  refine gm_sub [1, 2, 0] rfl ?_
                  have h9 := ih13 (x10, x11, t9) h
                  exact h9
                refine gm_if_ne C 120 dX12_breaksPages_113 (by decide) (fun c113_5 => ?_) (fun c113_5 => ?_)
                · refine gm_iconst C 0 dX12_breaksPages_120 (by decide) ?_
                  refine gm_sub [1, 0] rfl ?_
                  exact k121 _ ((if_neg c113_5).symm)
                · refine gm_iconst C 1 dX12_breaksPages_116 (by decide) ?_
                  refine gm_goto C 121 dX12_breaksPages_117 (by decide) ?_
                  refine gm_sub [1, 0] rfl ?_
                  exact k121 _ ((if_pos c113_5).symm)
              have kf56 : ¬ ((z56 ≤ 0) ∨ ((v_withLines z13.1 x3 z56 z13.2.2) = (v_bestOf z13.1 x3 z13.2.1 z13.2.2))) → GM p l e (rmD 3) s m args below meth c 5 D cI cZ mo ad (gm_Q below D cI cZ mo ad (pV Q t) args s) z13.2.2 79 [(0, .ref mo), (1, .int z13.1), (2, .int z13.2.1), (3, .int x3), (4, .int z56)] [] := by
                intro hc
                have h := h.2 hc
                refine gm_iinc C 4 (z56 + (-1)) [(4, .int (z56 + (-1))), (0, .ref mo), (1, .int z13.1), (2, .int z13.2.1), (3, .int x3)] dX12_breaksPages_79 rfl rfl (by decide) rfl ?_
                refine gm_goto C 56 dX12_breaksPages_82 (by decide) ?_
                refine gm_sub [1, 2, 3, 4, 0] rfl ?_
                have h9 := ih56 (z56 + (-1)) h
                exact h9
              refine gm_if_le C 85 dX12_breaksPages_58 (by decide) (fun c58_3 => ?_) (fun c58_3 => ?_)
              · exact kt56 (Or.inl c58_3)
              · refine gm_aload C 0 dX12_breaksPages_61 rfl ?_
                refine gm_iloadn C 1 1 dX12_breaksPages_62 rfl rfl ?_
                refine gm_iloadn C 3 3 dX12_breaksPages_63 rfl rfl ?_
                refine gm_iload C 4 dX12_breaksPages_64 rfl ?_
                refine gm_callV C (y := yX12_withLines) (as := [.int z13.1, .int x3, .int z56]) rfl (by decide) (by decide) (c_withLines l D cI cZ mo ad z13.1 x3 z56 z13.2.2 (g5 c58_3)) hy_withLines rfl wl_317 cu_withLines dX12_breaksPages_66 (Nat.le_of_ble_eq_true rfl) (kP ?_)
                refine gm_aload C 0 dX12_breaksPages_69 rfl ?_
                refine gm_iloadn C 1 1 dX12_breaksPages_70 rfl rfl ?_
                refine gm_iloadn C 3 3 dX12_breaksPages_71 rfl rfl ?_
                refine gm_iloadn C 2 2 dX12_breaksPages_72 rfl rfl ?_
                refine gm_callV C (y := yX12_bestOf) (as := [.int z13.1, .int x3, .int z13.2.1]) rfl (by decide) (by decide) (c_bestOf l D cI cZ mo ad z13.1 x3 z13.2.1 z13.2.2 (g6 c58_3)) hy_bestOf rfl wl_310 cu_bestOf dX12_breaksPages_73 (Nat.le_of_ble_eq_true rfl) (kP ?_)
                refine gm_icmp_eq C 85 dX12_breaksPages_76 (by decide) (fun c76_4 => ?_) (fun c76_4 => ?_)
                · exact kt56 (Or.inr c76_4)
                · exact kf56 (fun q0 => Or.elim q0 c58_3 c76_4)
          exact k56 n56 x4 h
        refine gm_icmp_ge C 48 dX12_breaksPages_38 (by decide) (fun c38_2 => ?_) (fun c38_2 => ?_)
        · refine gm_aload C 1 dX12_breaksPages_48 rfl ?_
          refine gm_getI C 38 (by decide) rfl wf_298 rfl dX12_breaksPages_49 ?_
          refine gm_iloadn C 2 1 dX12_breaksPages_52 rfl rfl ?_
          refine gm_isub C dX12_breaksPages_53 ?_
          refine gm_sub [1, 2, 3, 0] rfl ?_
          exact k54 _ ((if_pos c38_2).symm)
        · refine gm_aload C 1 dX12_breaksPages_41 rfl ?_
          refine gm_getI C 22 (by decide) rfl wf_72 rfl dX12_breaksPages_42 ?_
          refine gm_goto C 54 dX12_breaksPages_45 (by decide) ?_
          refine gm_sub [1, 2, 3, 0] rfl ?_
          exact k54 _ ((if_neg c38_2).symm)
  exact k13 n13 (0, 0, t2) h
def w_isPaged_L21 (a1 : Int32) (J91 : MS → Prop) (K21 : (Int32 × MS) → Prop) (z21 : Int32 × MS) : Prop := (((mgI z21.2 38) ≤ z21.1) → w_breaksPages z21.2 (fun t6 => J91 t6)) ∧ (¬ ((mgI z21.2 38) ≤ z21.1) → (d_barAhead z21.1 z21.2) ∧ ∀ x8 : Int32, x8 = (v_barAhead z21.1 z21.2) → w_restAt a1 x8 z21.2 (fun r9 t9 => ∀ x10 : Int32, x10 = (if (mgI t9 23) ≤ r9 then 0 else 20000) → w_isInPhrase a1 x8 t9 (fun r11 t11 => ∀ x12 : Int32, x12 = (if r11 = 0 then 0 else 500000) → (mIn 44 z21.1) ∧ ∀ t14 : MS, t14 = msA t11 44 z21.1 (x10 + x12) → K21 ((z21.1 + 1), t14))))
def w_isPaged (a1 : Int32) (t : MS) (Q : Int32 → MS → Prop) : Prop := w_isBroken a1 t (fun r1 t1 => ∃ J91 : MS → Prop, (∀ t2 : MS, J91 t2 → ((gb r1) ∧ Q r1 t2)) ∧ (((r1 = 0) → J91 t1) ∧ (¬ (r1 = 0) → w_laysPlaces t1 (fun t4 => w_laysSounds a1 t4 (fun t5 => ∃ n, lp (w_isPaged_L21 a1 J91) n (1, t5))))))
set_option maxRecDepth 20000 in
set_option maxHeartbeats 2000000 in
theorem c_isPaged (l : Launch) (D : va_G) (cI cZ : ClassId) (mo : Nat) (ad : Nat → Nat) (a1 : Int32) (t : MS) (Q : Int32 → MS → Prop) (h : w_isPaged a1 t Q) : MetM l yX12_isPaged cX12_isPaged 5 (some .boolean) 8 [.ref mo, .int a1] (pI Q) D cI cZ mo ad t := by
  unfold w_isPaged at h
  refine gm_start (by decide) rfl (Nat.le_of_ble_eq_true rfl) (fun p e s m args below meth c C E => ?_)
  refine gm_aload C 0 dX12_isPaged_0 rfl ?_
  refine gm_iloadn C 1 1 dX12_isPaged_1 rfl rfl ?_
  refine gm_callV C (y := yX12_isBroken) (as := [.int a1]) rfl (by decide) (by decide) (c_isBroken l D cI cZ mo ad a1 t _ h) hy_isBroken rfl wl_304 cu_isBroken dX12_isPaged_2 (Nat.le_of_ble_eq_true rfl) (kI (fun r1 t1 h => ?_))
  refine gm_istoren C 2 [(2, .int r1), (0, .ref mo), (1, .int a1)] dX12_isPaged_5 rfl (by decide) rfl ?_
  refine gm_iloadn C 0 2 dX12_isPaged_6 rfl rfl ?_
  obtain ⟨J91, hJ91, h⟩ := h
  have k91 : ∀ t2 : MS, J91 t2 → GM p l e (rmD 8) s m args below meth c 5 D cI cZ mo ad (gm_Q below D cI cZ mo ad (pI Q t) args s) t2 91 [(2, .int r1)] [] := by
    intro t2 h
    have h := hJ91 t2 h
    refine gm_iloadn C 0 2 dX12_isPaged_91 rfl rfl ?_
    obtain ⟨g3, h⟩ := h
    exact gm_zret C E g3 dX12_isPaged_92 ⟨_, rfl, h⟩
  refine gm_if_eq C 91 dX12_isPaged_7 (by decide) (fun c7_1 => ?_) (fun c7_1 => ?_)
  · have h := h.1 c7_1
    refine gm_sub [0] rfl ?_
    exact k91 t1 h
  · have h := h.2 c7_1
    refine gm_aload C 1 dX12_isPaged_10 rfl ?_
    refine gm_callV C (y := yX12_laysPlaces) (as := []) rfl (by decide) (by decide) (c_laysPlaces l D cI cZ mo ad t1 _ h) hy_laysPlaces rfl wl_214 cu_laysPlaces dX12_isPaged_11 (Nat.le_of_ble_eq_true rfl) (kV (fun t4 h => ?_))
    refine gm_aload C 1 dX12_isPaged_14 rfl ?_
    refine gm_iloadn C 2 1 dX12_isPaged_15 rfl rfl ?_
    refine gm_callV C (y := yX12_laysSounds) (as := [.int a1]) rfl (by decide) (by decide) (c_laysSounds l D cI cZ mo ad a1 t4 _ h) hy_laysSounds rfl wl_229 cu_laysSounds dX12_isPaged_16 (Nat.le_of_ble_eq_true rfl) (kV (fun t5 h => ?_))
    refine gm_iconst C 1 dX12_isPaged_19 (by decide) ?_
    refine gm_istoren C 3 [(3, .int 1), (2, .int r1), (0, .ref mo), (1, .int a1)] dX12_isPaged_20 rfl (by decide) rfl ?_
    refine gm_sub [2, 3, 1, 0] rfl ?_
    obtain ⟨n21, h⟩ := h
    have k21 : ∀ (n21 : Nat) (z21 : Int32 × MS), lp (w_isPaged_L21 a1 J91) n21 z21 → GM p l e (rmD 8) s m args below meth c 5 D cI cZ mo ad (gm_Q below D cI cZ mo ad (pI Q t) args s) z21.2 21 [(0, .ref mo), (1, .int a1), (2, .int r1), (3, .int z21.1)] [] := by
      intro n21
      induction n21 with
      | zero => intro z21 h; exact h.elim
      | succ n21 ih21 =>
        intro z21 h
        have h : w_isPaged_L21 a1 J91 (lp (w_isPaged_L21 a1 J91) n21) z21 := h
        unfold w_isPaged_L21 at h
        refine gm_iloadn C 3 3 dX12_isPaged_21 rfl rfl ?_
        refine gm_aload C 0 dX12_isPaged_22 rfl ?_
        refine gm_getI C 38 (by decide) rfl wf_298 rfl dX12_isPaged_23 ?_
        refine gm_icmp_ge C 87 dX12_isPaged_26 (by decide) (fun c26_2 => ?_) (fun c26_2 => ?_)
        · have h := h.1 c26_2
          refine gm_aload C 0 dX12_isPaged_87 rfl ?_
          refine gm_callV C (y := yX12_breaksPages) (as := []) rfl (by decide) (by decide) (c_breaksPages l D cI cZ mo ad z21.2 _ h) hy_breaksPages rfl wl_336 cu_breaksPages dX12_isPaged_88 (Nat.le_of_ble_eq_true rfl) (kV (fun t6 h => ?_))
          refine gm_sub [2] rfl ?_
          exact k91 t6 h
        · have h := h.2 c26_2
          refine gm_aload C 0 dX12_isPaged_29 rfl ?_
          refine gm_iloadn C 3 3 dX12_isPaged_30 rfl rfl ?_
          obtain ⟨g7, h⟩ := h
          refine gm_callV C (y := yX12_barAhead) (as := [.int z21.1]) rfl (by decide) (by decide) (c_barAhead l D cI cZ mo ad z21.1 z21.2 g7) hy_barAhead rfl wl_326 cu_barAhead dX12_isPaged_31 (Nat.le_of_ble_eq_true rfl) (kP ?_)
          refine gm_nameI (fun x8 ex8 => ?_)
          have h := h x8 ex8
          refine gm_istore C [(4, .int x8), (0, .ref mo), (1, .int a1), (2, .int r1), (3, .int z21.1)] dX12_isPaged_34 (by decide) rfl ?_
          refine gm_aload C 1 dX12_isPaged_36 rfl ?_
          refine gm_getA C 44 (by decide) rfl wf_126 rfl dX12_isPaged_37 ?_
          refine gm_iloadn C 4 3 dX12_isPaged_40 rfl rfl ?_
          refine gm_aload C 1 dX12_isPaged_41 rfl ?_
          refine gm_iloadn C 2 1 dX12_isPaged_42 rfl rfl ?_
          refine gm_iload C 0 dX12_isPaged_43 rfl ?_
          refine gm_callV C (y := yX12_restAt) (as := [.int a1, .int x8]) rfl (by decide) (by decide) (c_restAt l D cI cZ mo ad a1 x8 z21.2 _ h) hy_restAt rfl wl_329 cu_restAt dX12_isPaged_45 (Nat.le_of_ble_eq_true rfl) (kI (fun r9 t9 h => ?_))
          refine gm_aload C 1 dX12_isPaged_48 rfl ?_
          refine gm_getI C 23 (by decide) rfl wf_75 rfl dX12_isPaged_49 ?_
          have k62 : ∀ x10 : Int32, x10 = (if (mgI t9 23) ≤ r9 then 0 else 20000) → GM p l e (rmD 8) s m args below meth c 5 D cI cZ mo ad (gm_Q below D cI cZ mo ad (pI Q t) args s) t9 62 [(0, .ref mo), (1, .int a1), (2, .int r1), (3, .int z21.1), (4, .int x8)] [.int x10, .int z21.1, .ref (ad 44)] := by
            intro x10 ex10
            have h := h x10 ex10
            refine gm_aload C 0 dX12_isPaged_62 rfl ?_
            refine gm_iloadn C 1 1 dX12_isPaged_63 rfl rfl ?_
            refine gm_iload C 4 dX12_isPaged_64 rfl ?_
            refine gm_callV C (y := yX12_isInPhrase) (as := [.int a1, .int x8]) rfl (by decide) (by decide) (c_isInPhrase l D cI cZ mo ad a1 x8 t9 _ h) hy_isInPhrase rfl wl_332 cu_isInPhrase dX12_isPaged_66 (Nat.le_of_ble_eq_true rfl) (kI (fun r11 t11 h => ?_))
            have k79 : ∀ x12 : Int32, x12 = (if r11 = 0 then 0 else 500000) → GM p l e (rmD 8) s m args below meth c 5 D cI cZ mo ad (gm_Q below D cI cZ mo ad (pI Q t) args s) t11 79 [(0, .ref mo), (1, .int a1), (2, .int r1), (3, .int z21.1)] [.int x12, .int x10, .int z21.1, .ref (ad 44)] := by
              intro x12 ex12
              have h := h x12 ex12
              refine gm_iadd C dX12_isPaged_79 ?_
              obtain ⟨g13, h⟩ := h
              refine gm_iast C 44 (by decide) rfl g13 dX12_isPaged_80 ?_
              refine gm_nameT (fun t14 et14 => ?_)
              have h := h t14 et14
              refine gm_iinc C 3 (z21.1 + 1) [(3, .int (z21.1 + 1)), (0, .ref mo), (1, .int a1), (2, .int r1)] dX12_isPaged_81 rfl rfl (by decide) rfl ?_
              refine gm_goto C 21 dX12_isPaged_84 (by decide) ?_
              refine gm_sub [1, 2, 3, 0] rfl ?_
              have h9 := ih21 ((z21.1 + 1), t14) h
              exact h9
            refine gm_if_eq C 78 dX12_isPaged_69 (by decide) (fun c69_4 => ?_) (fun c69_4 => ?_)
            · refine gm_iconst C 0 dX12_isPaged_78 (by decide) ?_
              refine gm_sub [0, 1, 2, 3] rfl ?_
              exact k79 _ ((if_pos c69_4).symm)
            · refine gm_ldcw C 500000 w_i2258 dX12_isPaged_72 ?_
              refine gm_goto C 79 dX12_isPaged_75 (by decide) ?_
              refine gm_sub [0, 1, 2, 3] rfl ?_
              exact k79 _ ((if_neg c69_4).symm)
          refine gm_icmp_ge C 61 dX12_isPaged_52 (by decide) (fun c52_3 => ?_) (fun c52_3 => ?_)
          · refine gm_iconst C 0 dX12_isPaged_61 (by decide) ?_
            refine gm_sub [1, 2, 3, 4, 0] rfl ?_
            exact k62 _ ((if_pos c52_3).symm)
          · refine gm_sipush C 20000 dX12_isPaged_55 (by decide) ?_
            refine gm_goto C 62 dX12_isPaged_58 (by decide) ?_
            refine gm_sub [1, 2, 3, 4, 0] rfl ?_
            exact k62 _ ((if_neg c52_3).symm)
    exact k21 n21 (1, t5) h
def w_pages (a1 : Int32) (t : MS) (Q : Int32 → MS → Prop) : Prop := w_isPaged a1 t (fun r1 t1 => w_goes (v_isVoice a1) r1 1 t1 (fun r2 t2 => ∀ x3 : Int32, x3 = (if r2 = 0 then 0 else (mgI t2 41)) → Q x3 t2))
set_option maxRecDepth 20000 in
set_option maxHeartbeats 2000000 in
theorem c_pages (l : Launch) (D : va_G) (cI cZ : ClassId) (mo : Nat) (ad : Nat → Nat) (a1 : Int32) (t : MS) (Q : Int32 → MS → Prop) (h : w_pages a1 t Q) : MetM l yX12_pages cX12_pages 3 (some .int) 9 [.ref mo, .int a1] (pI Q) D cI cZ mo ad t := by
  unfold w_pages at h
  refine gm_start (by decide) rfl (Nat.le_of_ble_eq_true rfl) (fun p e s m args below meth c C E => ?_)
  refine gm_aload C 0 dX12_pages_0 rfl ?_
  refine gm_iloadn C 1 1 dX12_pages_1 rfl rfl ?_
  refine gm_callV C (y := yX12_isPaged) (as := [.int a1]) rfl (by decide) (by decide) (c_isPaged l D cI cZ mo ad a1 t _ h) hy_isPaged rfl wl_339 cu_isPaged dX12_pages_2 (Nat.le_of_ble_eq_true rfl) (kI (fun r1 t1 h => ?_))
  refine gm_istoren C 2 [(2, .int r1), (0, .ref mo), (1, .int a1)] dX12_pages_5 rfl (by decide) rfl ?_
  refine gm_aload C 1 dX12_pages_6 rfl ?_
  refine gm_iloadn C 2 1 dX12_pages_7 rfl rfl ?_
  refine gm_callS C (y := yX12_isVoice) (as := [.int a1]) rfl (by decide) (by decide) (c_isVoice l D cI cZ mo ad a1 t1) hy_isVoice rfl wl_184 cu_isVoice dX12_pages_8 (Nat.le_of_ble_eq_true rfl) (kP ?_)
  refine gm_iloadn C 0 2 dX12_pages_11 rfl rfl ?_
  refine gm_iconst C 1 dX12_pages_12 (by decide) ?_
  refine gm_callV C (y := yX12_goes) (as := [.int (v_isVoice a1), .int r1, .int 1]) rfl (by decide) (by decide) (c_goes l D cI cZ mo ad (v_isVoice a1) r1 1 t1 _ h) hy_goes rfl wl_165 cu_goes dX12_pages_13 (Nat.le_of_ble_eq_true rfl) (kI (fun r2 t2 h => ?_))
  have k27 : ∀ x3 : Int32, x3 = (if r2 = 0 then 0 else (mgI t2 41)) → GM p l e (rmD 9) s m args below meth c 3 D cI cZ mo ad (gm_Q below D cI cZ mo ad (pI Q t) args s) t2 27 [] [.int x3] := by
    intro x3 ex3
    have h := h x3 ex3
    exact gm_iret C E dX12_pages_27 ⟨_, rfl, h⟩
  refine gm_if_eq C 26 dX12_pages_16 (by decide) (fun c16_1 => ?_) (fun c16_1 => ?_)
  · refine gm_iconst C 0 dX12_pages_26 (by decide) ?_
    refine gm_sub [] rfl ?_
    exact k27 _ ((if_pos c16_1).symm)
  · refine gm_aload C 1 dX12_pages_19 rfl ?_
    refine gm_getI C 41 (by decide) rfl wf_323 rfl dX12_pages_20 ?_
    refine gm_goto C 27 dX12_pages_23 (by decide) ?_
    refine gm_sub [] rfl ?_
    exact k27 _ ((if_neg c16_1).symm)
def w_pageLines (a1 a2 : Int32) (t : MS) (Q : Int32 → MS → Prop) : Prop := w_isPaged a1 t (fun r1 t1 => ∀ x2 : Int32, x2 = (if (¬ (r1 = 0)) ∧ (¬ ((v_in a2 0 ((mgI t1 41) - 1)) = 0)) then 1 else 0) → w_goes (v_isVoice a1) r1 x2 t1 (fun r3 t3 => ((¬ (r3 = 0)) → mIn 42 a2) ∧ ∀ x4 : Int32, x4 = (if r3 = 0 then 0 else (mgA t3 42 a2)) → Q x4 t3))
set_option maxRecDepth 20000 in
set_option maxHeartbeats 2000000 in
theorem c_pageLines (l : Launch) (D : va_G) (cI cZ : ClassId) (mo : Nat) (ad : Nat → Nat) (a1 a2 : Int32) (t : MS) (Q : Int32 → MS → Prop) (h : w_pageLines a1 a2 t Q) : MetM l yX12_pageLines cX12_pageLines 4 (some .int) 9 [.ref mo, .int a1, .int a2] (pI Q) D cI cZ mo ad t := by
  unfold w_pageLines at h
  refine gm_start (by decide) rfl (Nat.le_of_ble_eq_true rfl) (fun p e s m args below meth c C E => ?_)
  refine gm_aload C 0 dX12_pageLines_0 rfl ?_
  refine gm_iloadn C 1 1 dX12_pageLines_1 rfl rfl ?_
  refine gm_callV C (y := yX12_isPaged) (as := [.int a1]) rfl (by decide) (by decide) (c_isPaged l D cI cZ mo ad a1 t _ h) hy_isPaged rfl wl_339 cu_isPaged dX12_pageLines_2 (Nat.le_of_ble_eq_true rfl) (kI (fun r1 t1 h => ?_))
  refine gm_istoren C 3 [(3, .int r1), (0, .ref mo), (1, .int a1), (2, .int a2)] dX12_pageLines_5 rfl (by decide) rfl ?_
  refine gm_aload C 1 dX12_pageLines_6 rfl ?_
  refine gm_iloadn C 2 1 dX12_pageLines_7 rfl rfl ?_
  refine gm_callS C (y := yX12_isVoice) (as := [.int a1]) rfl (by decide) (by decide) (c_isVoice l D cI cZ mo ad a1 t1) hy_isVoice rfl wl_184 cu_isVoice dX12_pageLines_8 (Nat.le_of_ble_eq_true rfl) (kP ?_)
  refine gm_iloadn C 0 3 dX12_pageLines_11 rfl rfl ?_
  refine gm_iloadn C 0 3 dX12_pageLines_12 rfl rfl ?_
  have k35 : ∀ x2 : Int32, x2 = (if (¬ (r1 = 0)) ∧ (¬ ((v_in a2 0 ((mgI t1 41) - 1)) = 0)) then 1 else 0) → GM p l e (rmD 9) s m args below meth c 4 D cI cZ mo ad (gm_Q below D cI cZ mo ad (pI Q t) args s) t1 35 [(0, .ref mo), (2, .int a2)] [.int x2, .int r1, .int (v_isVoice a1), .ref mo] := by
    intro x2 ex2
    have h := h x2 ex2
    refine gm_callV C (y := yX12_goes) (as := [.int (v_isVoice a1), .int r1, .int x2]) rfl (by decide) (by decide) (c_goes l D cI cZ mo ad (v_isVoice a1) r1 x2 t1 _ h) hy_goes rfl wl_165 cu_goes dX12_pageLines_35 (Nat.le_of_ble_eq_true rfl) (kI (fun r3 t3 h => ?_))
    obtain ⟨g5, h⟩ := h
    have k51 : ∀ x4 : Int32, x4 = (if r3 = 0 then 0 else (mgA t3 42 a2)) → GM p l e (rmD 9) s m args below meth c 4 D cI cZ mo ad (gm_Q below D cI cZ mo ad (pI Q t) args s) t3 51 [] [.int x4] := by
      intro x4 ex4
      have h := h x4 ex4
      exact gm_iret C E dX12_pageLines_51 ⟨_, rfl, h⟩
    refine gm_if_eq C 50 dX12_pageLines_38 (by decide) (fun c38_3 => ?_) (fun c38_3 => ?_)
    · refine gm_iconst C 0 dX12_pageLines_50 (by decide) ?_
      refine gm_sub [] rfl ?_
      exact k51 _ ((if_pos c38_3).symm)
    · refine gm_aload C 0 dX12_pageLines_41 rfl ?_
      refine gm_getA C 42 (by decide) rfl wf_120 rfl dX12_pageLines_42 ?_
      refine gm_iloadn C 1 2 dX12_pageLines_45 rfl rfl ?_
      refine gm_iald C 42 (by decide) rfl (g5 c38_3) dX12_pageLines_46 ?_
      refine gm_goto C 51 dX12_pageLines_47 (by decide) ?_
      refine gm_sub [] rfl ?_
      exact k51 _ ((if_neg c38_3).symm)
  refine gm_if_eq C 34 dX12_pageLines_13 (by decide) (fun c13_1 => ?_) (fun c13_1 => ?_)
  · refine gm_iconst C 0 dX12_pageLines_34 (by decide) ?_
    refine gm_sub [1, 3] rfl ?_
    exact k35 _ ((if_neg (fun q0 => q0.1 c13_1)).symm)
  · refine gm_iloadn C 3 2 dX12_pageLines_16 rfl rfl ?_
    refine gm_iconst C 0 dX12_pageLines_17 (by decide) ?_
    refine gm_aload C 1 dX12_pageLines_18 rfl ?_
    refine gm_getI C 41 (by decide) rfl wf_323 rfl dX12_pageLines_19 ?_
    refine gm_iconst C 1 dX12_pageLines_22 (by decide) ?_
    refine gm_isub C dX12_pageLines_23 ?_
    refine gm_callS C (y := yX12_in) (as := [.int a2, .int 0, .int ((mgI t1 41) - 1)]) rfl (by decide) (by decide) (c_in l D cI cZ mo ad a2 0 ((mgI t1 41) - 1) t1) hy_in rfl wl_135 cu_in dX12_pageLines_24 (Nat.le_of_ble_eq_true rfl) (kP ?_)
    refine gm_if_eq C 34 dX12_pageLines_27 (by decide) (fun c27_2 => ?_) (fun c27_2 => ?_)
    · refine gm_iconst C 0 dX12_pageLines_34 (by decide) ?_
      refine gm_sub [1, 3] rfl ?_
      exact k35 _ ((if_neg (fun q0 => (fun q1 => q1 c27_2) q0.2)).symm)
    · refine gm_iconst C 1 dX12_pageLines_30 (by decide) ?_
      refine gm_goto C 35 dX12_pageLines_31 (by decide) ?_
      refine gm_sub [1, 3] rfl ?_
      exact k35 _ ((if_pos ⟨c13_1, c27_2⟩).symm)
def w_pageOf_L74 (Q : Int32 → MS → Prop) (t2 : MS) (z28 : Int32) (K74 : (Int32 × Int32) → Prop) (z74 : Int32 × Int32) : Prop := ((z28 < z74.2) → Q z74.1 t2) ∧ (¬ (z28 < z74.2) → (mIn 42 (z74.1 + 1)) ∧ ∀ x8 : Int32, x8 = (z74.2 + (mgA t2 42 (z74.1 + 1))) → K74 ((z74.1 + 1), x8))
def w_pageOf_L28 (a2 : Int32) (Q : Int32 → MS → Prop) (t2 : MS) (K28 : Int32 → Prop) (z28 : Int32) : Prop := ((¬ ((mgI t2 38) ≤ (z28 + 1))) → mIn 39 (z28 + 1)) ∧ ((¬ ((mgI t2 38) ≤ (z28 + 1))) → mIn 34 (mgA t2 39 (z28 + 1))) ∧ ((((mgI t2 38) ≤ (z28 + 1)) ∨ (a2 < (mgA t2 34 (mgA t2 39 (z28 + 1))))) → (mIn 42 0) ∧ ∀ x6 : Int32, x6 = (mgA t2 42 0) → ∃ n, lp (w_pageOf_L74 Q t2 z28) n (0, x6)) ∧ (¬ (((mgI t2 38) ≤ (z28 + 1)) ∨ (a2 < (mgA t2 34 (mgA t2 39 (z28 + 1))))) → K28 (z28 + 1))
def w_pageOf (a1 a2 : Int32) (t : MS) (Q : Int32 → MS → Prop) : Prop := w_isPaged a1 t (fun r1 t1 => w_goes (v_isVoice a1) r1 (v_isBar a2 t1) t1 (fun r2 t2 => ((r2 = 0) → Q 0 t2) ∧ (¬ (r2 = 0) → ∃ n, lp (w_pageOf_L28 a2 Q t2) n 0)))
set_option maxRecDepth 20000 in
set_option maxHeartbeats 2000000 in
theorem c_pageOf (l : Launch) (D : va_G) (cI cZ : ClassId) (mo : Nat) (ad : Nat → Nat) (a1 a2 : Int32) (t : MS) (Q : Int32 → MS → Prop) (h : w_pageOf a1 a2 t Q) : MetM l yX12_pageOf cX12_pageOf 7 (some .int) 9 [.ref mo, .int a1, .int a2] (pI Q) D cI cZ mo ad t := by
  unfold w_pageOf at h
  refine gm_start (by decide) rfl (Nat.le_of_ble_eq_true rfl) (fun p e s m args below meth c C E => ?_)
  refine gm_aload C 0 dX12_pageOf_0 rfl ?_
  refine gm_iloadn C 1 1 dX12_pageOf_1 rfl rfl ?_
  refine gm_callV C (y := yX12_isPaged) (as := [.int a1]) rfl (by decide) (by decide) (c_isPaged l D cI cZ mo ad a1 t _ h) hy_isPaged rfl wl_339 cu_isPaged dX12_pageOf_2 (Nat.le_of_ble_eq_true rfl) (kI (fun r1 t1 h => ?_))
  refine gm_istoren C 3 [(3, .int r1), (0, .ref mo), (1, .int a1), (2, .int a2)] dX12_pageOf_5 rfl (by decide) rfl ?_
  refine gm_aload C 1 dX12_pageOf_6 rfl ?_
  refine gm_iloadn C 2 1 dX12_pageOf_7 rfl rfl ?_
  refine gm_callS C (y := yX12_isVoice) (as := [.int a1]) rfl (by decide) (by decide) (c_isVoice l D cI cZ mo ad a1 t1) hy_isVoice rfl wl_184 cu_isVoice dX12_pageOf_8 (Nat.le_of_ble_eq_true rfl) (kP ?_)
  refine gm_iloadn C 0 3 dX12_pageOf_11 rfl rfl ?_
  refine gm_aload C 1 dX12_pageOf_12 rfl ?_
  refine gm_iloadn C 3 2 dX12_pageOf_13 rfl rfl ?_
  refine gm_callV C (y := yX12_isBar) (as := [.int a2]) rfl (by decide) (by decide) (c_isBar l D cI cZ mo ad a2 t1) hy_isBar rfl wl_143 cu_isBar dX12_pageOf_14 (Nat.le_of_ble_eq_true rfl) (kP ?_)
  refine gm_callV C (y := yX12_goes) (as := [.int (v_isVoice a1), .int r1, .int (v_isBar a2 t1)]) rfl (by decide) (by decide) (c_goes l D cI cZ mo ad (v_isVoice a1) r1 (v_isBar a2 t1) t1 _ h) hy_goes rfl wl_165 cu_goes dX12_pageOf_17 (Nat.le_of_ble_eq_true rfl) (kI (fun r2 t2 h => ?_))
  refine gm_if_ne C 25 dX12_pageOf_20 (by decide) (fun c20_1 => ?_) (fun c20_1 => ?_)
  · have h := h.2 c20_1
    refine gm_iconst C 0 dX12_pageOf_25 (by decide) ?_
    refine gm_istore C [(4, .int 0), (3, .int r1), (0, .ref mo), (1, .int a1), (2, .int a2)] dX12_pageOf_26 (by decide) rfl ?_
    refine gm_sub [2, 4, 0] rfl ?_
    obtain ⟨n28, h⟩ := h
    have k28 : ∀ (n28 : Nat) (z28 : Int32), lp (w_pageOf_L28 a2 Q t2) n28 z28 → GM p l e (rmD 9) s m args below meth c 7 D cI cZ mo ad (gm_Q below D cI cZ mo ad (pI Q t) args s) t2 28 [(0, .ref mo), (2, .int a2), (4, .int z28)] [] := by
      intro n28
      induction n28 with
      | zero => intro z28 h; exact h.elim
      | succ n28 ih28 =>
        intro z28 h
        have h : w_pageOf_L28 a2 Q t2 (lp (w_pageOf_L28 a2 Q t2) n28) z28 := h
        unfold w_pageOf_L28 at h
        refine gm_iload C 2 dX12_pageOf_28 rfl ?_
        refine gm_iconst C 1 dX12_pageOf_30 (by decide) ?_
        refine gm_iadd C dX12_pageOf_31 ?_
        refine gm_aload C 0 dX12_pageOf_32 rfl ?_
        refine gm_getI C 38 (by decide) rfl wf_298 rfl dX12_pageOf_33 ?_
        obtain ⟨g3, h⟩ := h
        obtain ⟨g4, h⟩ := h
        have kt28 : (((mgI t2 38) ≤ (z28 + 1)) ∨ (a2 < (mgA t2 34 (mgA t2 39 (z28 + 1))))) → GM p l e (rmD 9) s m args below meth c 7 D cI cZ mo ad (gm_Q below D cI cZ mo ad (pI Q t) args s) t2 63 [(0, .ref mo), (2, .int a2), (4, .int z28)] [] := by
          intro hc
          have h := h.1 hc
          refine gm_iconst C 0 dX12_pageOf_63 (by decide) ?_
          refine gm_istore C [(5, .int 0), (0, .ref mo), (2, .int a2), (4, .int z28)] dX12_pageOf_64 (by decide) rfl ?_
          refine gm_aload C 1 dX12_pageOf_66 rfl ?_
          refine gm_getA C 42 (by decide) rfl wf_120 rfl dX12_pageOf_67 ?_
          refine gm_iconst C 0 dX12_pageOf_70 (by decide) ?_
          obtain ⟨g5, h⟩ := h
          refine gm_iald C 42 (by decide) rfl g5 dX12_pageOf_71 ?_
          refine gm_nameI (fun x6 ex6 => ?_)
          have h := h x6 ex6
          refine gm_istore C [(6, .int x6), (5, .int 0), (0, .ref mo), (2, .int a2), (4, .int z28)] dX12_pageOf_72 (by decide) rfl ?_
          refine gm_sub [2, 4, 1, 0] rfl ?_
          obtain ⟨n74, h⟩ := h
          have k74 : ∀ (n74 : Nat) (z74 : Int32 × Int32), lp (w_pageOf_L74 Q t2 z28) n74 z74 → GM p l e (rmD 9) s m args below meth c 7 D cI cZ mo ad (gm_Q below D cI cZ mo ad (pI Q t) args s) t2 74 [(0, .ref mo), (4, .int z28), (5, .int z74.1), (6, .int z74.2)] [] := by
            intro n74
            induction n74 with
            | zero => intro z74 h; exact h.elim
            | succ n74 ih74 =>
              intro z74 h
              have h : w_pageOf_L74 Q t2 z28 (lp (w_pageOf_L74 Q t2 z28) n74) z74 := h
              unfold w_pageOf_L74 at h
              refine gm_iload C 3 dX12_pageOf_74 rfl ?_
              refine gm_iload C 1 dX12_pageOf_76 rfl ?_
              refine gm_icmp_gt C 99 dX12_pageOf_78 (by decide) (fun c78_4 => ?_) (fun c78_4 => ?_)
              · have h := h.1 c78_4
                refine gm_iload C 2 dX12_pageOf_99 rfl ?_
                exact gm_iret C E dX12_pageOf_101 ⟨_, rfl, h⟩
              · have h := h.2 c78_4
                refine gm_iinc C 2 (z74.1 + 1) [(5, .int (z74.1 + 1)), (0, .ref mo), (4, .int z28), (6, .int z74.2)] dX12_pageOf_81 rfl rfl (by decide) rfl ?_
                refine gm_iload C 3 dX12_pageOf_84 rfl ?_
                refine gm_aload C 1 dX12_pageOf_86 rfl ?_
                refine gm_getA C 42 (by decide) rfl wf_120 rfl dX12_pageOf_87 ?_
                refine gm_iload C 0 dX12_pageOf_90 rfl ?_
                obtain ⟨g7, h⟩ := h
                refine gm_iald C 42 (by decide) rfl g7 dX12_pageOf_92 ?_
                refine gm_iadd C dX12_pageOf_93 ?_
                refine gm_nameI (fun x8 ex8 => ?_)
                have h := h x8 ex8
                refine gm_istore C [(6, .int x8), (5, .int (z74.1 + 1)), (0, .ref mo), (4, .int z28)] dX12_pageOf_94 (by decide) rfl ?_
                refine gm_goto C 74 dX12_pageOf_96 (by decide) ?_
                refine gm_sub [2, 3, 1, 0] rfl ?_
                have h9 := ih74 ((z74.1 + 1), x8) h
                exact h9
          exact k74 n74 (0, x6) h
        have kf28 : ¬ (((mgI t2 38) ≤ (z28 + 1)) ∨ (a2 < (mgA t2 34 (mgA t2 39 (z28 + 1))))) → GM p l e (rmD 9) s m args below meth c 7 D cI cZ mo ad (gm_Q below D cI cZ mo ad (pI Q t) args s) t2 57 [(0, .ref mo), (2, .int a2), (4, .int z28)] [] := by
          intro hc
          have h := h.2 hc
          refine gm_iinc C 2 (z28 + 1) [(4, .int (z28 + 1)), (0, .ref mo), (2, .int a2)] dX12_pageOf_57 rfl rfl (by decide) rfl ?_
          refine gm_goto C 28 dX12_pageOf_60 (by decide) ?_
          refine gm_sub [1, 2, 0] rfl ?_
          have h9 := ih28 (z28 + 1) h
          exact h9
        refine gm_icmp_ge C 63 dX12_pageOf_36 (by decide) (fun c36_2 => ?_) (fun c36_2 => ?_)
        · exact kt28 (Or.inl c36_2)
        · refine gm_aload C 0 dX12_pageOf_39 rfl ?_
          refine gm_getA C 34 (by decide) rfl wf_102 rfl dX12_pageOf_40 ?_
          refine gm_aload C 0 dX12_pageOf_43 rfl ?_
          refine gm_getA C 39 (by decide) rfl wf_114 rfl dX12_pageOf_44 ?_
          refine gm_iload C 2 dX12_pageOf_47 rfl ?_
          refine gm_iconst C 1 dX12_pageOf_49 (by decide) ?_
          refine gm_iadd C dX12_pageOf_50 ?_
          refine gm_iald C 39 (by decide) rfl (g3 c36_2) dX12_pageOf_51 ?_
          refine gm_iald C 34 (by decide) rfl (g4 c36_2) dX12_pageOf_52 ?_
          refine gm_iloadn C 1 2 dX12_pageOf_53 rfl rfl ?_
          refine gm_icmp_gt C 63 dX12_pageOf_54 (by decide) (fun c54_3 => ?_) (fun c54_3 => ?_)
          · exact kt28 (Or.inr c54_3)
          · exact kf28 (fun q0 => Or.elim q0 c36_2 c54_3)
    exact k28 n28 0 h
  · have h := h.1 c20_1
    refine gm_iconst C 0 dX12_pageOf_23 (by decide) ?_
    exact gm_iret C E dX12_pageOf_24 ⟨_, rfl, h⟩
def w_turnsTo_L11 (a1 : Int32) (a2 : Int32) (t : MS) (Q : Int32 → MS → Prop) (K11 : (Int32 × Int32 × Int32 × Int32) → Prop) (z11 : Int32 × Int32 × Int32 × Int32) : Prop := (((mgI t 41) ≤ (z11.2.2.2 + 1)) → ∀ x1 : Int32, x1 = (if a2 = 0 then z11.2.2.1 else z11.1) → Q x1 t) ∧ (¬ ((mgI t 41) ≤ (z11.2.2.2 + 1)) → (mIn 42 z11.2.2.2) ∧ ∀ x3 : Int32, x3 = (z11.2.1 + (mgA t 42 z11.2.2.2)) → (mIn 42 z11.2.2.2) ∧ ((¬ ((mgA t 42 z11.2.2.2) ≤ 0)) → (¬ ((mRem z11.2.2.2 2) = 0)) → mIn 42 (z11.2.2.2 + 1)) ∧ ∀ x5 : Int32, x5 = (if (¬ ((mgA t 42 z11.2.2.2) ≤ 0)) ∧ (((mRem z11.2.2.2 2) = 0) ∨ ((mgA t 42 (z11.2.2.2 + 1)) = 0)) then 1 else 0) → ∀ x7 : Int32, x7 = (if (x5 = 0) ∨ (¬ (z11.1 = a1)) then z11.2.2.1 else x3) → ∀ x8 : Int32, x8 = (if ¬ (x5 = 0) then 1 else 0) → ∀ x9 : Int32, x9 = (z11.1 + x8) → K11 (x9, x3, x7, (z11.2.2.2 + 1)))
def w_turnsTo (a1 a2 : Int32) (t : MS) (Q : Int32 → MS → Prop) : Prop := ∃ n, lp (w_turnsTo_L11 a1 a2 t Q) n (0, 0, (-1), 0)
set_option maxRecDepth 20000 in
set_option maxHeartbeats 2000000 in
theorem c_turnsTo (l : Launch) (D : va_G) (cI cZ : ClassId) (mo : Nat) (ad : Nat → Nat) (a1 a2 : Int32) (t : MS) (Q : Int32 → MS → Prop) (h : w_turnsTo a1 a2 t Q) : MetM l yX12_turnsTo cX12_turnsTo 8 (some .int) 0 [.ref mo, .int a1, .int a2] (pI Q) D cI cZ mo ad t := by
  unfold w_turnsTo at h
  refine gm_start (by decide) rfl (Nat.le_of_ble_eq_true rfl) (fun p e s m args below meth c C E => ?_)
  refine gm_iconst C 0 dX12_turnsTo_0 (by decide) ?_
  refine gm_istoren C 3 [(3, .int 0), (0, .ref mo), (1, .int a1), (2, .int a2)] dX12_turnsTo_1 rfl (by decide) rfl ?_
  refine gm_iconst C 0 dX12_turnsTo_2 (by decide) ?_
  refine gm_istore C [(4, .int 0), (3, .int 0), (0, .ref mo), (1, .int a1), (2, .int a2)] dX12_turnsTo_3 (by decide) rfl ?_
  refine gm_iconst C (-1) dX12_turnsTo_5 (by decide) ?_
  refine gm_istore C [(5, .int (-1)), (4, .int 0), (3, .int 0), (0, .ref mo), (1, .int a1), (2, .int a2)] dX12_turnsTo_6 (by decide) rfl ?_
  refine gm_iconst C 0 dX12_turnsTo_8 (by decide) ?_
  refine gm_istore C [(6, .int 0), (5, .int (-1)), (4, .int 0), (3, .int 0), (0, .ref mo), (1, .int a1), (2, .int a2)] dX12_turnsTo_9 (by decide) rfl ?_
  refine gm_sub [4, 5, 6, 3, 2, 1, 0] rfl ?_
  obtain ⟨n11, h⟩ := h
  have k11 : ∀ (n11 : Nat) (z11 : Int32 × Int32 × Int32 × Int32), lp (w_turnsTo_L11 a1 a2 t Q) n11 z11 → GM p l e (rmD 0) s m args below meth c 8 D cI cZ mo ad (gm_Q below D cI cZ mo ad (pI Q t) args s) t 11 [(0, .ref mo), (1, .int a1), (2, .int a2), (3, .int z11.1), (4, .int z11.2.1), (5, .int z11.2.2.1), (6, .int z11.2.2.2)] [] := by
    intro n11
    induction n11 with
    | zero => intro z11 h; exact h.elim
    | succ n11 ih11 =>
      intro z11 h
      have h : w_turnsTo_L11 a1 a2 t Q (lp (w_turnsTo_L11 a1 a2 t Q) n11) z11 := h
      unfold w_turnsTo_L11 at h
      refine gm_iload C 6 dX12_turnsTo_11 rfl ?_
      refine gm_iconst C 1 dX12_turnsTo_13 (by decide) ?_
      refine gm_iadd C dX12_turnsTo_14 ?_
      refine gm_aload C 0 dX12_turnsTo_15 rfl ?_
      refine gm_getI C 41 (by decide) rfl wf_323 rfl dX12_turnsTo_16 ?_
      refine gm_icmp_ge C 108 dX12_turnsTo_19 (by decide) (fun c19_1 => ?_) (fun c19_1 => ?_)
      · have h := h.1 c19_1
        refine gm_iloadn C 2 2 dX12_turnsTo_108 rfl rfl ?_
        have k118 : ∀ x1 : Int32, x1 = (if a2 = 0 then z11.2.2.1 else z11.1) → GM p l e (rmD 0) s m args below meth c 8 D cI cZ mo ad (gm_Q below D cI cZ mo ad (pI Q t) args s) t 118 [] [.int x1] := by
          intro x1 ex1
          have h := h x1 ex1
          exact gm_iret C E dX12_turnsTo_118 ⟨_, rfl, h⟩
        refine gm_if_eq C 116 dX12_turnsTo_109 (by decide) (fun c109_2 => ?_) (fun c109_2 => ?_)
        · refine gm_iload C 5 dX12_turnsTo_116 rfl ?_
          refine gm_sub [] rfl ?_
          exact k118 _ ((if_pos c109_2).symm)
        · refine gm_iloadn C 3 3 dX12_turnsTo_112 rfl rfl ?_
          refine gm_goto C 118 dX12_turnsTo_113 (by decide) ?_
          refine gm_sub [] rfl ?_
          exact k118 _ ((if_neg c109_2).symm)
      · have h := h.2 c19_1
        refine gm_iload C 4 dX12_turnsTo_22 rfl ?_
        refine gm_aload C 0 dX12_turnsTo_24 rfl ?_
        refine gm_getA C 42 (by decide) rfl wf_120 rfl dX12_turnsTo_25 ?_
        refine gm_iload C 6 dX12_turnsTo_28 rfl ?_
        obtain ⟨g2, h⟩ := h
        refine gm_iald C 42 (by decide) rfl g2 dX12_turnsTo_30 ?_
        refine gm_iadd C dX12_turnsTo_31 ?_
        refine gm_nameI (fun x3 ex3 => ?_)
        have h := h x3 ex3
        refine gm_istore C [(4, .int x3), (0, .ref mo), (1, .int a1), (2, .int a2), (3, .int z11.1), (5, .int z11.2.2.1), (6, .int z11.2.2.2)] dX12_turnsTo_32 (by decide) rfl ?_
        refine gm_aload C 1 dX12_turnsTo_34 rfl ?_
        refine gm_getA C 42 (by decide) rfl wf_120 rfl dX12_turnsTo_35 ?_
        refine gm_iload C 6 dX12_turnsTo_38 rfl ?_
        obtain ⟨g4, h⟩ := h
        refine gm_iald C 42 (by decide) rfl g4 dX12_turnsTo_40 ?_
        obtain ⟨g6, h⟩ := h
        have k68 : ∀ x5 : Int32, x5 = (if (¬ ((mgA t 42 z11.2.2.2) ≤ 0)) ∧ (((mRem z11.2.2.2 2) = 0) ∨ ((mgA t 42 (z11.2.2.2 + 1)) = 0)) then 1 else 0) → GM p l e (rmD 0) s m args below meth c 8 D cI cZ mo ad (gm_Q below D cI cZ mo ad (pI Q t) args s) t 68 [(0, .ref mo), (1, .int a1), (2, .int a2), (3, .int z11.1), (4, .int x3), (5, .int z11.2.2.1), (6, .int z11.2.2.2)] [.int x5] := by
          intro x5 ex5
          have h := h x5 ex5
          refine gm_istore C [(7, .int x5), (0, .ref mo), (1, .int a1), (2, .int a2), (3, .int z11.1), (4, .int x3), (5, .int z11.2.2.1), (6, .int z11.2.2.2)] dX12_turnsTo_68 (by decide) rfl ?_
          refine gm_iload C 0 dX12_turnsTo_70 rfl ?_
          have k87 : ∀ x7 : Int32, x7 = (if (x5 = 0) ∨ (¬ (z11.1 = a1)) then z11.2.2.1 else x3) → GM p l e (rmD 0) s m args below meth c 8 D cI cZ mo ad (gm_Q below D cI cZ mo ad (pI Q t) args s) t 87 [(0, .ref mo), (1, .int a1), (2, .int a2), (3, .int z11.1), (4, .int x3), (6, .int z11.2.2.2), (7, .int x5)] [.int x7] := by
            intro x7 ex7
            have h := h x7 ex7
            refine gm_istore C [(5, .int x7), (0, .ref mo), (1, .int a1), (2, .int a2), (3, .int z11.1), (4, .int x3), (6, .int z11.2.2.2), (7, .int x5)] dX12_turnsTo_87 (by decide) rfl ?_
            refine gm_iloadn C 4 3 dX12_turnsTo_89 rfl rfl ?_
            refine gm_iload C 7 dX12_turnsTo_90 rfl ?_
            have k100 : ∀ x8 : Int32, x8 = (if ¬ (x5 = 0) then 1 else 0) → GM p l e (rmD 0) s m args below meth c 8 D cI cZ mo ad (gm_Q below D cI cZ mo ad (pI Q t) args s) t 100 [(0, .ref mo), (1, .int a1), (2, .int a2), (4, .int x3), (5, .int x7), (6, .int z11.2.2.2)] [.int x8, .int z11.1] := by
              intro x8 ex8
              have h := h x8 ex8
              refine gm_iadd C dX12_turnsTo_100 ?_
              refine gm_nameI (fun x9 ex9 => ?_)
              have h := h x9 ex9
              refine gm_istoren C 3 [(3, .int x9), (0, .ref mo), (1, .int a1), (2, .int a2), (4, .int x3), (5, .int x7), (6, .int z11.2.2.2)] dX12_turnsTo_101 rfl (by decide) rfl ?_
              refine gm_iinc C 6 (z11.2.2.2 + 1) [(6, .int (z11.2.2.2 + 1)), (3, .int x9), (0, .ref mo), (1, .int a1), (2, .int a2), (4, .int x3), (5, .int x7)] dX12_turnsTo_102 rfl rfl (by decide) rfl ?_
              refine gm_goto C 11 dX12_turnsTo_105 (by decide) ?_
              refine gm_sub [2, 3, 4, 1, 5, 6, 0] rfl ?_
              have h9 := ih11 (x9, x3, x7, (z11.2.2.2 + 1)) h
              exact h9
            refine gm_if_eq C 99 dX12_turnsTo_92 (by decide) (fun c92_8 => ?_) (fun c92_8 => ?_)
            · refine gm_iconst C 0 dX12_turnsTo_99 (by decide) ?_
              refine gm_sub [1, 2, 3, 5, 0, 6] rfl ?_
              exact k100 _ ((if_neg (fun q0 => q0 c92_8)).symm)
            · refine gm_iconst C 1 dX12_turnsTo_95 (by decide) ?_
              refine gm_goto C 100 dX12_turnsTo_96 (by decide) ?_
              refine gm_sub [1, 2, 3, 5, 0, 6] rfl ?_
              exact k100 _ ((if_pos c92_8).symm)
          refine gm_if_eq C 85 dX12_turnsTo_72 (by decide) (fun c72_6 => ?_) (fun c72_6 => ?_)
          · refine gm_iload C 6 dX12_turnsTo_85 rfl ?_
            refine gm_sub [1, 2, 3, 4, 5, 7, 0] rfl ?_
            exact k87 _ ((if_pos (Or.inl c72_6)).symm)
          · refine gm_iloadn C 4 3 dX12_turnsTo_75 rfl rfl ?_
            refine gm_iloadn C 2 1 dX12_turnsTo_76 rfl rfl ?_
            refine gm_icmp_ne C 85 dX12_turnsTo_77 (by decide) (fun c77_7 => ?_) (fun c77_7 => ?_)
            · refine gm_iload C 6 dX12_turnsTo_85 rfl ?_
              refine gm_sub [1, 2, 3, 4, 5, 7, 0] rfl ?_
              exact k87 _ ((if_pos (Or.inr c77_7)).symm)
            · refine gm_iload C 5 dX12_turnsTo_80 rfl ?_
              refine gm_goto C 87 dX12_turnsTo_82 (by decide) ?_
              refine gm_sub [1, 2, 3, 4, 5, 7, 0] rfl ?_
              exact k87 _ ((if_neg (fun q0 => Or.elim q0 c72_6 (fun q1 => q1 c77_7))).symm)
        refine gm_if_le C 67 dX12_turnsTo_41 (by decide) (fun c41_3 => ?_) (fun c41_3 => ?_)
        · refine gm_iconst C 0 dX12_turnsTo_67 (by decide) ?_
          refine gm_sub [1, 2, 3, 4, 0, 5, 6] rfl ?_
          exact k68 _ ((if_neg (fun q0 => q0.1 c41_3)).symm)
        · refine gm_iload C 6 dX12_turnsTo_44 rfl ?_
          refine gm_iconst C 2 dX12_turnsTo_46 (by decide) ?_
          refine gm_irem C dX12_turnsTo_47 (by decide) ?_
          refine gm_if_eq C 63 dX12_turnsTo_48 (by decide) (fun c48_4 => ?_) (fun c48_4 => ?_)
          · refine gm_iconst C 1 dX12_turnsTo_63 (by decide) ?_
            refine gm_goto C 68 dX12_turnsTo_64 (by decide) ?_
            refine gm_sub [1, 2, 3, 4, 0, 5, 6] rfl ?_
            exact k68 _ ((if_pos ⟨c41_3, (Or.inl c48_4)⟩).symm)
          · refine gm_aload C 1 dX12_turnsTo_51 rfl ?_
            refine gm_getA C 42 (by decide) rfl wf_120 rfl dX12_turnsTo_52 ?_
            refine gm_iload C 6 dX12_turnsTo_55 rfl ?_
            refine gm_iconst C 1 dX12_turnsTo_57 (by decide) ?_
            refine gm_iadd C dX12_turnsTo_58 ?_
            refine gm_iald C 42 (by decide) rfl (g6 c41_3 c48_4) dX12_turnsTo_59 ?_
            refine gm_if_ne C 67 dX12_turnsTo_60 (by decide) (fun c60_5 => ?_) (fun c60_5 => ?_)
            · refine gm_iconst C 0 dX12_turnsTo_67 (by decide) ?_
              refine gm_sub [1, 2, 3, 4, 0, 5, 6] rfl ?_
              exact k68 _ ((if_neg (fun q0 => (fun q1 => Or.elim q1 c48_4 c60_5) q0.2)).symm)
            · refine gm_iconst C 1 dX12_turnsTo_63 (by decide) ?_
              refine gm_goto C 68 dX12_turnsTo_64 (by decide) ?_
              refine gm_sub [1, 2, 3, 4, 0, 5, 6] rfl ?_
              exact k68 _ ((if_pos ⟨c41_3, (Or.inr c60_5)⟩).symm)
  exact k11 n11 (0, 0, (-1), 0) h
def w_pageTurns (a1 : Int32) (t : MS) (Q : Int32 → MS → Prop) : Prop := w_isPaged a1 t (fun r1 t1 => w_goes (v_isVoice a1) r1 1 t1 (fun r2 t2 => ∃ J29 : Int32 → MS → Prop, (∀ x3 : Int32, ∀ t4 : MS, J29 x3 t4 → (Q x3 t4)) ∧ (((r2 = 0) → J29 0 t2) ∧ (¬ (r2 = 0) → w_turnsTo 0 1 t2 (fun r5 t5 => J29 r5 t5)))))
set_option maxRecDepth 20000 in
set_option maxHeartbeats 2000000 in
theorem c_pageTurns (l : Launch) (D : va_G) (cI cZ : ClassId) (mo : Nat) (ad : Nat → Nat) (a1 : Int32) (t : MS) (Q : Int32 → MS → Prop) (h : w_pageTurns a1 t Q) : MetM l yX12_pageTurns cX12_pageTurns 3 (some .int) 9 [.ref mo, .int a1] (pI Q) D cI cZ mo ad t := by
  unfold w_pageTurns at h
  refine gm_start (by decide) rfl (Nat.le_of_ble_eq_true rfl) (fun p e s m args below meth c C E => ?_)
  refine gm_aload C 0 dX12_pageTurns_0 rfl ?_
  refine gm_iloadn C 1 1 dX12_pageTurns_1 rfl rfl ?_
  refine gm_callV C (y := yX12_isPaged) (as := [.int a1]) rfl (by decide) (by decide) (c_isPaged l D cI cZ mo ad a1 t _ h) hy_isPaged rfl wl_339 cu_isPaged dX12_pageTurns_2 (Nat.le_of_ble_eq_true rfl) (kI (fun r1 t1 h => ?_))
  refine gm_istoren C 2 [(2, .int r1), (0, .ref mo), (1, .int a1)] dX12_pageTurns_5 rfl (by decide) rfl ?_
  refine gm_aload C 1 dX12_pageTurns_6 rfl ?_
  refine gm_iloadn C 2 1 dX12_pageTurns_7 rfl rfl ?_
  refine gm_callS C (y := yX12_isVoice) (as := [.int a1]) rfl (by decide) (by decide) (c_isVoice l D cI cZ mo ad a1 t1) hy_isVoice rfl wl_184 cu_isVoice dX12_pageTurns_8 (Nat.le_of_ble_eq_true rfl) (kP ?_)
  refine gm_iloadn C 0 2 dX12_pageTurns_11 rfl rfl ?_
  refine gm_iconst C 1 dX12_pageTurns_12 (by decide) ?_
  refine gm_callV C (y := yX12_goes) (as := [.int (v_isVoice a1), .int r1, .int 1]) rfl (by decide) (by decide) (c_goes l D cI cZ mo ad (v_isVoice a1) r1 1 t1 _ h) hy_goes rfl wl_165 cu_goes dX12_pageTurns_13 (Nat.le_of_ble_eq_true rfl) (kI (fun r2 t2 h => ?_))
  obtain ⟨J29, hJ29, h⟩ := h
  have k29 : ∀ x3 : Int32, ∀ t4 : MS, J29 x3 t4 → GM p l e (rmD 9) s m args below meth c 3 D cI cZ mo ad (gm_Q below D cI cZ mo ad (pI Q t) args s) t4 29 [] [.int x3] := by
    intro x3 t4 h
    have h := hJ29 x3 t4 h
    exact gm_iret C E dX12_pageTurns_29 ⟨_, rfl, h⟩
  refine gm_if_eq C 28 dX12_pageTurns_16 (by decide) (fun c16_1 => ?_) (fun c16_1 => ?_)
  · have h := h.1 c16_1
    refine gm_iconst C 0 dX12_pageTurns_28 (by decide) ?_
    refine gm_sub [] rfl ?_
    exact k29 0 t2 h
  · have h := h.2 c16_1
    refine gm_aload C 1 dX12_pageTurns_19 rfl ?_
    refine gm_iconst C 0 dX12_pageTurns_20 (by decide) ?_
    refine gm_iconst C 1 dX12_pageTurns_21 (by decide) ?_
    refine gm_callV C (y := yX12_turnsTo) (as := [.int 0, .int 1]) rfl (by decide) (by decide) (c_turnsTo l D cI cZ mo ad 0 1 t2 _ h) hy_turnsTo rfl wl_342 cu_turnsTo dX12_pageTurns_22 (Nat.le_of_ble_eq_true rfl) (kI (fun r5 t5 h => ?_))
    refine gm_goto C 29 dX12_pageTurns_25 (by decide) ?_
    refine gm_sub [] rfl ?_
    exact k29 r5 t5 h
def w_isTurn (a1 a2 : Int32) (t : MS) (Q : Int32 → MS → Prop) : Prop := w_isPaged a1 t (fun r1 t1 => ∃ J37 : Int32 → MS → Prop, (∀ x2 : Int32, ∀ t3 : MS, J37 x2 t3 → (w_goes (v_isVoice a1) r1 x2 t3 (fun r4 t4 => (gb r4) ∧ Q r4 t4))) ∧ ∃ J36 : MS → Prop, (∀ t6 : MS, J36 t6 → (J37 0 t6)) ∧ (((r1 = 0) → J36 t1) ∧ (¬ (r1 = 0) → w_turnsTo 0 1 t1 (fun r7 t7 => (((v_in a2 0 (r7 - 1)) = 0) → J36 t7) ∧ (¬ ((v_in a2 0 (r7 - 1)) = 0) → J37 1 t7)))))
set_option maxRecDepth 20000 in
set_option maxHeartbeats 2000000 in
theorem c_isTurn (l : Launch) (D : va_G) (cI cZ : ClassId) (mo : Nat) (ad : Nat → Nat) (a1 a2 : Int32) (t : MS) (Q : Int32 → MS → Prop) (h : w_isTurn a1 a2 t Q) : MetM l yX12_isTurn cX12_isTurn 4 (some .boolean) 9 [.ref mo, .int a1, .int a2] (pI Q) D cI cZ mo ad t := by
  unfold w_isTurn at h
  refine gm_start (by decide) rfl (Nat.le_of_ble_eq_true rfl) (fun p e s m args below meth c C E => ?_)
  refine gm_aload C 0 dX12_isTurn_0 rfl ?_
  refine gm_iloadn C 1 1 dX12_isTurn_1 rfl rfl ?_
  refine gm_callV C (y := yX12_isPaged) (as := [.int a1]) rfl (by decide) (by decide) (c_isPaged l D cI cZ mo ad a1 t _ h) hy_isPaged rfl wl_339 cu_isPaged dX12_isTurn_2 (Nat.le_of_ble_eq_true rfl) (kI (fun r1 t1 h => ?_))
  refine gm_istoren C 3 [(3, .int r1), (0, .ref mo), (1, .int a1), (2, .int a2)] dX12_isTurn_5 rfl (by decide) rfl ?_
  refine gm_aload C 1 dX12_isTurn_6 rfl ?_
  refine gm_iloadn C 2 1 dX12_isTurn_7 rfl rfl ?_
  refine gm_callS C (y := yX12_isVoice) (as := [.int a1]) rfl (by decide) (by decide) (c_isVoice l D cI cZ mo ad a1 t1) hy_isVoice rfl wl_184 cu_isVoice dX12_isTurn_8 (Nat.le_of_ble_eq_true rfl) (kP ?_)
  refine gm_iloadn C 0 3 dX12_isTurn_11 rfl rfl ?_
  refine gm_iloadn C 0 3 dX12_isTurn_12 rfl rfl ?_
  obtain ⟨J37, hJ37, h⟩ := h
  have k37 : ∀ x2 : Int32, ∀ t3 : MS, J37 x2 t3 → GM p l e (rmD 9) s m args below meth c 4 D cI cZ mo ad (gm_Q below D cI cZ mo ad (pI Q t) args s) t3 37 [] [.int x2, .int r1, .int (v_isVoice a1), .ref mo] := by
    intro x2 t3 h
    have h := hJ37 x2 t3 h
    refine gm_callV C (y := yX12_goes) (as := [.int (v_isVoice a1), .int r1, .int x2]) rfl (by decide) (by decide) (c_goes l D cI cZ mo ad (v_isVoice a1) r1 x2 t3 _ h) hy_goes rfl wl_165 cu_goes dX12_isTurn_37 (Nat.le_of_ble_eq_true rfl) (kI (fun r4 t4 h => ?_))
    obtain ⟨g5, h⟩ := h
    exact gm_zret C E g5 dX12_isTurn_40 ⟨_, rfl, h⟩
  obtain ⟨J36, hJ36, h⟩ := h
  have k36 : ∀ t6 : MS, J36 t6 → GM p l e (rmD 9) s m args below meth c 4 D cI cZ mo ad (gm_Q below D cI cZ mo ad (pI Q t) args s) t6 36 [] [.int r1, .int (v_isVoice a1), .ref mo] := by
    intro t6 h
    have h := hJ36 t6 h
    refine gm_iconst C 0 dX12_isTurn_36 (by decide) ?_
    exact k37 0 t6 h
  refine gm_if_eq C 36 dX12_isTurn_13 (by decide) (fun c13_1 => ?_) (fun c13_1 => ?_)
  · have h := h.1 c13_1
    refine gm_sub [] rfl ?_
    exact k36 t1 h
  · have h := h.2 c13_1
    refine gm_iloadn C 3 2 dX12_isTurn_16 rfl rfl ?_
    refine gm_iconst C 0 dX12_isTurn_17 (by decide) ?_
    refine gm_aload C 1 dX12_isTurn_18 rfl ?_
    refine gm_iconst C 0 dX12_isTurn_19 (by decide) ?_
    refine gm_iconst C 1 dX12_isTurn_20 (by decide) ?_
    refine gm_callV C (y := yX12_turnsTo) (as := [.int 0, .int 1]) rfl (by decide) (by decide) (c_turnsTo l D cI cZ mo ad 0 1 t1 _ h) hy_turnsTo rfl wl_342 cu_turnsTo dX12_isTurn_21 (Nat.le_of_ble_eq_true rfl) (kI (fun r7 t7 h => ?_))
    refine gm_iconst C 1 dX12_isTurn_24 (by decide) ?_
    refine gm_isub C dX12_isTurn_25 ?_
    refine gm_callS C (y := yX12_in) (as := [.int a2, .int 0, .int (r7 - 1)]) rfl (by decide) (by decide) (c_in l D cI cZ mo ad a2 0 (r7 - 1) t7) hy_in rfl wl_135 cu_in dX12_isTurn_26 (Nat.le_of_ble_eq_true rfl) (kP ?_)
    refine gm_if_eq C 36 dX12_isTurn_29 (by decide) (fun c29_2 => ?_) (fun c29_2 => ?_)
    · have h := h.1 c29_2
      refine gm_sub [] rfl ?_
      exact k36 t7 h
    · have h := h.2 c29_2
      refine gm_iconst C 1 dX12_isTurn_32 (by decide) ?_
      refine gm_goto C 37 dX12_isTurn_33 (by decide) ?_
      refine gm_sub [] rfl ?_
      exact k37 1 t7 h
def w_turnBar (a1 a2 : Int32) (t : MS) (Q : Int32 → MS → Prop) : Prop := w_isTurn a1 a2 t (fun r1 t1 => ∃ J23 : Int32 → MS → Prop, (∀ x2 : Int32, ∀ t3 : MS, J23 x2 t3 → (Q x2 t3)) ∧ (((r1 = 0) → J23 0 t1) ∧ (¬ (r1 = 0) → w_turnsTo a2 0 t1 (fun r4 t4 => (d_barAhead r4 t4) ∧ J23 (v_barAhead r4 t4) t4))))
set_option maxRecDepth 20000 in
set_option maxHeartbeats 2000000 in
theorem c_turnBar (l : Launch) (D : va_G) (cI cZ : ClassId) (mo : Nat) (ad : Nat → Nat) (a1 a2 : Int32) (t : MS) (Q : Int32 → MS → Prop) (h : w_turnBar a1 a2 t Q) : MetM l yX12_turnBar cX12_turnBar 3 (some .int) 10 [.ref mo, .int a1, .int a2] (pI Q) D cI cZ mo ad t := by
  unfold w_turnBar at h
  refine gm_start (by decide) rfl (Nat.le_of_ble_eq_true rfl) (fun p e s m args below meth c C E => ?_)
  refine gm_aload C 0 dX12_turnBar_0 rfl ?_
  refine gm_iloadn C 1 1 dX12_turnBar_1 rfl rfl ?_
  refine gm_iloadn C 2 2 dX12_turnBar_2 rfl rfl ?_
  refine gm_callV C (y := yX12_isTurn) (as := [.int a1, .int a2]) rfl (by decide) (by decide) (c_isTurn l D cI cZ mo ad a1 a2 t _ h) hy_isTurn rfl wl_345 cu_isTurn dX12_turnBar_3 (Nat.le_of_ble_eq_true rfl) (kI (fun r1 t1 h => ?_))
  obtain ⟨J23, hJ23, h⟩ := h
  have k23 : ∀ x2 : Int32, ∀ t3 : MS, J23 x2 t3 → GM p l e (rmD 10) s m args below meth c 3 D cI cZ mo ad (gm_Q below D cI cZ mo ad (pI Q t) args s) t3 23 [] [.int x2] := by
    intro x2 t3 h
    have h := hJ23 x2 t3 h
    exact gm_iret C E dX12_turnBar_23 ⟨_, rfl, h⟩
  refine gm_if_eq C 22 dX12_turnBar_6 (by decide) (fun c6_1 => ?_) (fun c6_1 => ?_)
  · have h := h.1 c6_1
    refine gm_iconst C 0 dX12_turnBar_22 (by decide) ?_
    refine gm_sub [] rfl ?_
    exact k23 0 t1 h
  · have h := h.2 c6_1
    refine gm_aload C 0 dX12_turnBar_9 rfl ?_
    refine gm_aload C 0 dX12_turnBar_10 rfl ?_
    refine gm_iloadn C 2 2 dX12_turnBar_11 rfl rfl ?_
    refine gm_iconst C 0 dX12_turnBar_12 (by decide) ?_
    refine gm_callV C (y := yX12_turnsTo) (as := [.int a2, .int 0]) rfl (by decide) (by decide) (c_turnsTo l D cI cZ mo ad a2 0 t1 _ h) hy_turnsTo rfl wl_342 cu_turnsTo dX12_turnBar_13 (Nat.le_of_ble_eq_true rfl) (kI (fun r4 t4 h => ?_))
    obtain ⟨g5, h⟩ := h
    refine gm_callV C (y := yX12_barAhead) (as := [.int r4]) rfl (by decide) (by decide) (c_barAhead l D cI cZ mo ad r4 t4 g5) hy_barAhead rfl wl_326 cu_barAhead dX12_turnBar_16 (Nat.le_of_ble_eq_true rfl) (kP ?_)
    refine gm_goto C 23 dX12_turnBar_19 (by decide) ?_
    refine gm_sub [] rfl ?_
    exact k23 (v_barAhead r4 t4) t4 h
def w_turnTime (a1 a2 : Int32) (t : MS) (Q : Int32 → MS → Prop) : Prop := w_isTurn a1 a2 t (fun r1 t1 => ∃ J27 : Int32 → MS → Prop, (∀ x2 : Int32, ∀ t3 : MS, J27 x2 t3 → (Q x2 t3)) ∧ (((r1 = 0) → J27 0 t1) ∧ (¬ (r1 = 0) → w_turnsTo a2 0 t1 (fun r4 t4 => (d_barAhead r4 t4) ∧ w_timed (v_barAhead r4 t4) t4 (fun r6 t6 => J27 r6 t6)))))
set_option maxRecDepth 20000 in
set_option maxHeartbeats 2000000 in
theorem c_turnTime (l : Launch) (D : va_G) (cI cZ : ClassId) (mo : Nat) (ad : Nat → Nat) (a1 a2 : Int32) (t : MS) (Q : Int32 → MS → Prop) (h : w_turnTime a1 a2 t Q) : MetM l yX12_turnTime cX12_turnTime 3 (some .int) 10 [.ref mo, .int a1, .int a2] (pI Q) D cI cZ mo ad t := by
  unfold w_turnTime at h
  refine gm_start (by decide) rfl (Nat.le_of_ble_eq_true rfl) (fun p e s m args below meth c C E => ?_)
  refine gm_aload C 0 dX12_turnTime_0 rfl ?_
  refine gm_iloadn C 1 1 dX12_turnTime_1 rfl rfl ?_
  refine gm_iloadn C 2 2 dX12_turnTime_2 rfl rfl ?_
  refine gm_callV C (y := yX12_isTurn) (as := [.int a1, .int a2]) rfl (by decide) (by decide) (c_isTurn l D cI cZ mo ad a1 a2 t _ h) hy_isTurn rfl wl_345 cu_isTurn dX12_turnTime_3 (Nat.le_of_ble_eq_true rfl) (kI (fun r1 t1 h => ?_))
  obtain ⟨J27, hJ27, h⟩ := h
  have k27 : ∀ x2 : Int32, ∀ t3 : MS, J27 x2 t3 → GM p l e (rmD 10) s m args below meth c 3 D cI cZ mo ad (gm_Q below D cI cZ mo ad (pI Q t) args s) t3 27 [] [.int x2] := by
    intro x2 t3 h
    have h := hJ27 x2 t3 h
    exact gm_iret C E dX12_turnTime_27 ⟨_, rfl, h⟩
  refine gm_if_eq C 26 dX12_turnTime_6 (by decide) (fun c6_1 => ?_) (fun c6_1 => ?_)
  · have h := h.1 c6_1
    refine gm_iconst C 0 dX12_turnTime_26 (by decide) ?_
    refine gm_sub [] rfl ?_
    exact k27 0 t1 h
  · have h := h.2 c6_1
    refine gm_aload C 0 dX12_turnTime_9 rfl ?_
    refine gm_aload C 0 dX12_turnTime_10 rfl ?_
    refine gm_aload C 0 dX12_turnTime_11 rfl ?_
    refine gm_iloadn C 2 2 dX12_turnTime_12 rfl rfl ?_
    refine gm_iconst C 0 dX12_turnTime_13 (by decide) ?_
    refine gm_callV C (y := yX12_turnsTo) (as := [.int a2, .int 0]) rfl (by decide) (by decide) (c_turnsTo l D cI cZ mo ad a2 0 t1 _ h) hy_turnsTo rfl wl_342 cu_turnsTo dX12_turnTime_14 (Nat.le_of_ble_eq_true rfl) (kI (fun r4 t4 h => ?_))
    obtain ⟨g5, h⟩ := h
    refine gm_callV C (y := yX12_barAhead) (as := [.int r4]) rfl (by decide) (by decide) (c_barAhead l D cI cZ mo ad r4 t4 g5) hy_barAhead rfl wl_326 cu_barAhead dX12_turnTime_17 (Nat.le_of_ble_eq_true rfl) (kP ?_)
    refine gm_callV C (y := yX12_timed) (as := [.int (v_barAhead r4 t4)]) rfl (by decide) (by decide) (c_timed l D cI cZ mo ad (v_barAhead r4 t4) t4 _ h) hy_timed rfl wl_307 cu_timed dX12_turnTime_20 (Nat.le_of_ble_eq_true rfl) (kI (fun r6 t6 h => ?_))
    refine gm_goto C 27 dX12_turnTime_23 (by decide) ?_
    refine gm_sub [] rfl ?_
    exact k27 r6 t6 h
def w_turnRest (a1 a2 : Int32) (t : MS) (Q : Int32 → MS → Prop) : Prop := w_isTurn a1 a2 t (fun r1 t1 => ∃ J28 : Int32 → MS → Prop, (∀ x2 : Int32, ∀ t3 : MS, J28 x2 t3 → (Q x2 t3)) ∧ (((r1 = 0) → J28 0 t1) ∧ (¬ (r1 = 0) → w_turnsTo a2 0 t1 (fun r4 t4 => (d_barAhead r4 t4) ∧ w_restAt a1 (v_barAhead r4 t4) t4 (fun r6 t6 => J28 r6 t6)))))
set_option maxRecDepth 20000 in
set_option maxHeartbeats 2000000 in
theorem c_turnRest (l : Launch) (D : va_G) (cI cZ : ClassId) (mo : Nat) (ad : Nat → Nat) (a1 a2 : Int32) (t : MS) (Q : Int32 → MS → Prop) (h : w_turnRest a1 a2 t Q) : MetM l yX12_turnRest cX12_turnRest 3 (some .int) 10 [.ref mo, .int a1, .int a2] (pI Q) D cI cZ mo ad t := by
  unfold w_turnRest at h
  refine gm_start (by decide) rfl (Nat.le_of_ble_eq_true rfl) (fun p e s m args below meth c C E => ?_)
  refine gm_aload C 0 dX12_turnRest_0 rfl ?_
  refine gm_iloadn C 1 1 dX12_turnRest_1 rfl rfl ?_
  refine gm_iloadn C 2 2 dX12_turnRest_2 rfl rfl ?_
  refine gm_callV C (y := yX12_isTurn) (as := [.int a1, .int a2]) rfl (by decide) (by decide) (c_isTurn l D cI cZ mo ad a1 a2 t _ h) hy_isTurn rfl wl_345 cu_isTurn dX12_turnRest_3 (Nat.le_of_ble_eq_true rfl) (kI (fun r1 t1 h => ?_))
  obtain ⟨J28, hJ28, h⟩ := h
  have k28 : ∀ x2 : Int32, ∀ t3 : MS, J28 x2 t3 → GM p l e (rmD 10) s m args below meth c 3 D cI cZ mo ad (gm_Q below D cI cZ mo ad (pI Q t) args s) t3 28 [] [.int x2] := by
    intro x2 t3 h
    have h := hJ28 x2 t3 h
    exact gm_iret C E dX12_turnRest_28 ⟨_, rfl, h⟩
  refine gm_if_eq C 27 dX12_turnRest_6 (by decide) (fun c6_1 => ?_) (fun c6_1 => ?_)
  · have h := h.1 c6_1
    refine gm_iconst C 0 dX12_turnRest_27 (by decide) ?_
    refine gm_sub [] rfl ?_
    exact k28 0 t1 h
  · have h := h.2 c6_1
    refine gm_aload C 0 dX12_turnRest_9 rfl ?_
    refine gm_iloadn C 1 1 dX12_turnRest_10 rfl rfl ?_
    refine gm_aload C 0 dX12_turnRest_11 rfl ?_
    refine gm_aload C 0 dX12_turnRest_12 rfl ?_
    refine gm_iloadn C 2 2 dX12_turnRest_13 rfl rfl ?_
    refine gm_iconst C 0 dX12_turnRest_14 (by decide) ?_
    refine gm_callV C (y := yX12_turnsTo) (as := [.int a2, .int 0]) rfl (by decide) (by decide) (c_turnsTo l D cI cZ mo ad a2 0 t1 _ h) hy_turnsTo rfl wl_342 cu_turnsTo dX12_turnRest_15 (Nat.le_of_ble_eq_true rfl) (kI (fun r4 t4 h => ?_))
    obtain ⟨g5, h⟩ := h
    refine gm_callV C (y := yX12_barAhead) (as := [.int r4]) rfl (by decide) (by decide) (c_barAhead l D cI cZ mo ad r4 t4 g5) hy_barAhead rfl wl_326 cu_barAhead dX12_turnRest_18 (Nat.le_of_ble_eq_true rfl) (kP ?_)
    refine gm_callV C (y := yX12_restAt) (as := [.int a1, .int (v_barAhead r4 t4)]) rfl (by decide) (by decide) (c_restAt l D cI cZ mo ad a1 (v_barAhead r4 t4) t4 _ h) hy_restAt rfl wl_329 cu_restAt dX12_turnRest_21 (Nat.le_of_ble_eq_true rfl) (kI (fun r6 t6 h => ?_))
    refine gm_goto C 28 dX12_turnRest_24 (by decide) ?_
    refine gm_sub [] rfl ?_
    exact k28 r6 t6 h
def w_badTurns_L26 (Q : Int32 → MS → Prop) (K26 : (Int32 × Int32 × MS) → Prop) (z26 : Int32 × Int32 × MS) : Prop := w_turnsTo 0 1 z26.2.2 (fun r3 t3 => ((r3 ≤ z26.2.1) → Q z26.1 t3) ∧ (¬ (r3 ≤ z26.2.1) → w_turnsTo z26.2.1 0 t3 (fun r4 t4 => (mIn 44 r4) ∧ ∀ x6 : Int32, x6 = (if ¬ ((mgA t4 44 r4) ≤ 0) then 1 else 0) → ∀ x7 : Int32, x7 = (z26.1 + x6) → K26 (x7, (z26.2.1 + 1), t4))))
def w_badTurns (a1 : Int32) (t : MS) (Q : Int32 → MS → Prop) : Prop := w_isPaged a1 t (fun r1 t1 => w_goes (v_isVoice a1) r1 1 t1 (fun r2 t2 => ((r2 = 0) → Q 0 t2) ∧ (¬ (r2 = 0) → ∃ n, lp (w_badTurns_L26 Q) n (0, 0, t2))))
set_option maxRecDepth 20000 in
set_option maxHeartbeats 2000000 in
theorem c_badTurns (l : Launch) (D : va_G) (cI cZ : ClassId) (mo : Nat) (ad : Nat → Nat) (a1 : Int32) (t : MS) (Q : Int32 → MS → Prop) (h : w_badTurns a1 t Q) : MetM l yX12_badTurns cX12_badTurns 5 (some .int) 9 [.ref mo, .int a1] (pI Q) D cI cZ mo ad t := by
  unfold w_badTurns at h
  refine gm_start (by decide) rfl (Nat.le_of_ble_eq_true rfl) (fun p e s m args below meth c C E => ?_)
  refine gm_aload C 0 dX12_badTurns_0 rfl ?_
  refine gm_iloadn C 1 1 dX12_badTurns_1 rfl rfl ?_
  refine gm_callV C (y := yX12_isPaged) (as := [.int a1]) rfl (by decide) (by decide) (c_isPaged l D cI cZ mo ad a1 t _ h) hy_isPaged rfl wl_339 cu_isPaged dX12_badTurns_2 (Nat.le_of_ble_eq_true rfl) (kI (fun r1 t1 h => ?_))
  refine gm_istoren C 2 [(2, .int r1), (0, .ref mo), (1, .int a1)] dX12_badTurns_5 rfl (by decide) rfl ?_
  refine gm_aload C 1 dX12_badTurns_6 rfl ?_
  refine gm_iloadn C 2 1 dX12_badTurns_7 rfl rfl ?_
  refine gm_callS C (y := yX12_isVoice) (as := [.int a1]) rfl (by decide) (by decide) (c_isVoice l D cI cZ mo ad a1 t1) hy_isVoice rfl wl_184 cu_isVoice dX12_badTurns_8 (Nat.le_of_ble_eq_true rfl) (kP ?_)
  refine gm_iloadn C 0 2 dX12_badTurns_11 rfl rfl ?_
  refine gm_iconst C 1 dX12_badTurns_12 (by decide) ?_
  refine gm_callV C (y := yX12_goes) (as := [.int (v_isVoice a1), .int r1, .int 1]) rfl (by decide) (by decide) (c_goes l D cI cZ mo ad (v_isVoice a1) r1 1 t1 _ h) hy_goes rfl wl_165 cu_goes dX12_badTurns_13 (Nat.le_of_ble_eq_true rfl) (kI (fun r2 t2 h => ?_))
  refine gm_if_ne C 21 dX12_badTurns_16 (by decide) (fun c16_1 => ?_) (fun c16_1 => ?_)
  · have h := h.2 c16_1
    refine gm_iconst C 0 dX12_badTurns_21 (by decide) ?_
    refine gm_istoren C 3 [(3, .int 0), (2, .int r1), (0, .ref mo), (1, .int a1)] dX12_badTurns_22 rfl (by decide) rfl ?_
    refine gm_iconst C 0 dX12_badTurns_23 (by decide) ?_
    refine gm_istore C [(4, .int 0), (3, .int 0), (2, .int r1), (0, .ref mo), (1, .int a1)] dX12_badTurns_24 (by decide) rfl ?_
    refine gm_sub [3, 1, 0] rfl ?_
    obtain ⟨n26, h⟩ := h
    have k26 : ∀ (n26 : Nat) (z26 : Int32 × Int32 × MS), lp (w_badTurns_L26 Q) n26 z26 → GM p l e (rmD 9) s m args below meth c 5 D cI cZ mo ad (gm_Q below D cI cZ mo ad (pI Q t) args s) z26.2.2 26 [(0, .ref mo), (3, .int z26.1), (4, .int z26.2.1)] [] := by
      intro n26
      induction n26 with
      | zero => intro z26 h; exact h.elim
      | succ n26 ih26 =>
        intro z26 h
        have h : w_badTurns_L26 Q (lp (w_badTurns_L26 Q) n26) z26 := h
        unfold w_badTurns_L26 at h
        refine gm_iload C 2 dX12_badTurns_26 rfl ?_
        refine gm_aload C 0 dX12_badTurns_28 rfl ?_
        refine gm_iconst C 0 dX12_badTurns_29 (by decide) ?_
        refine gm_iconst C 1 dX12_badTurns_30 (by decide) ?_
        refine gm_callV C (y := yX12_turnsTo) (as := [.int 0, .int 1]) rfl (by decide) (by decide) (c_turnsTo l D cI cZ mo ad 0 1 z26.2.2 _ h) hy_turnsTo rfl wl_342 cu_turnsTo dX12_badTurns_31 (Nat.le_of_ble_eq_true rfl) (kI (fun r3 t3 h => ?_))
        refine gm_icmp_ge C 66 dX12_badTurns_34 (by decide) (fun c34_2 => ?_) (fun c34_2 => ?_)
        · have h := h.1 c34_2
          refine gm_iloadn C 1 3 dX12_badTurns_66 rfl rfl ?_
          exact gm_iret C E dX12_badTurns_67 ⟨_, rfl, h⟩
        · have h := h.2 c34_2
          refine gm_iloadn C 1 3 dX12_badTurns_37 rfl rfl ?_
          refine gm_aload C 0 dX12_badTurns_38 rfl ?_
          refine gm_getA C 44 (by decide) rfl wf_126 rfl dX12_badTurns_39 ?_
          refine gm_aload C 0 dX12_badTurns_42 rfl ?_
          refine gm_iload C 2 dX12_badTurns_43 rfl ?_
          refine gm_iconst C 0 dX12_badTurns_45 (by decide) ?_
          refine gm_callV C (y := yX12_turnsTo) (as := [.int z26.2.1, .int 0]) rfl (by decide) (by decide) (c_turnsTo l D cI cZ mo ad z26.2.1 0 t3 _ h) hy_turnsTo rfl wl_342 cu_turnsTo dX12_badTurns_46 (Nat.le_of_ble_eq_true rfl) (kI (fun r4 t4 h => ?_))
          obtain ⟨g5, h⟩ := h
          refine gm_iald C 44 (by decide) rfl g5 dX12_badTurns_49 ?_
          have k58 : ∀ x6 : Int32, x6 = (if ¬ ((mgA t4 44 r4) ≤ 0) then 1 else 0) → GM p l e (rmD 9) s m args below meth c 5 D cI cZ mo ad (gm_Q below D cI cZ mo ad (pI Q t) args s) t4 58 [(0, .ref mo), (4, .int z26.2.1)] [.int x6, .int z26.1] := by
            intro x6 ex6
            have h := h x6 ex6
            refine gm_iadd C dX12_badTurns_58 ?_
            refine gm_nameI (fun x7 ex7 => ?_)
            have h := h x7 ex7
            refine gm_istoren C 3 [(3, .int x7), (0, .ref mo), (4, .int z26.2.1)] dX12_badTurns_59 rfl (by decide) rfl ?_
            refine gm_iinc C 2 (z26.2.1 + 1) [(4, .int (z26.2.1 + 1)), (3, .int x7), (0, .ref mo)] dX12_badTurns_60 rfl rfl (by decide) rfl ?_
            refine gm_goto C 26 dX12_badTurns_63 (by decide) ?_
            refine gm_sub [2, 1, 0] rfl ?_
            have h9 := ih26 (x7, (z26.2.1 + 1), t4) h
            exact h9
          refine gm_if_le C 57 dX12_badTurns_50 (by decide) (fun c50_3 => ?_) (fun c50_3 => ?_)
          · refine gm_iconst C 0 dX12_badTurns_57 (by decide) ?_
            refine gm_sub [0, 2] rfl ?_
            exact k58 _ ((if_neg (fun q0 => q0 c50_3)).symm)
          · refine gm_iconst C 1 dX12_badTurns_53 (by decide) ?_
            refine gm_goto C 58 dX12_badTurns_54 (by decide) ?_
            refine gm_sub [0, 2] rfl ?_
            exact k58 _ ((if_pos c50_3).symm)
    exact k26 n26 (0, 0, t2) h
  · have h := h.1 c16_1
    refine gm_iconst C 0 dX12_badTurns_19 (by decide) ?_
    exact gm_iret C E dX12_badTurns_20 ⟨_, rfl, h⟩
def v_sheetsOf (t : MS) : Int32 := ((((mgI t 41) + 4) - 1) / 4)
set_option maxRecDepth 20000 in
theorem c_sheetsOf (l : Launch) (D : va_G) (cI cZ : ClassId) (mo : Nat) (ad : Nat → Nat) (t : MS) : MetM l yX12_sheetsOf cX12_sheetsOf 1 (some .int) 0 [.ref mo] (pI (fun r t' => (v_sheetsOf t) = r ∧ t = t')) D cI cZ mo ad t := by
  refine gm_start (by decide) rfl (Nat.le_of_ble_eq_true rfl) (fun p e s m args below meth c C E => ?_)
  refine gm_aload C 0 dX12_sheetsOf_0 rfl ?_
  refine gm_getI C 41 (by decide) rfl wf_323 rfl dX12_sheetsOf_1 ?_
  refine gm_iconst C 4 dX12_sheetsOf_4 (by decide) ?_
  refine gm_iadd C dX12_sheetsOf_5 ?_
  refine gm_iconst C 1 dX12_sheetsOf_6 (by decide) ?_
  refine gm_isub C dX12_sheetsOf_7 ?_
  refine gm_iconst C 4 dX12_sheetsOf_8 (by decide) ?_
  refine gm_idiv C dX12_sheetsOf_9 (by decide) ?_
  exact gm_iret C E dX12_sheetsOf_10 ⟨_, rfl, (rfl), rfl⟩
def w_sheets (a1 : Int32) (t : MS) (Q : Int32 → MS → Prop) : Prop := w_isPaged a1 t (fun r1 t1 => w_goes (v_isVoice a1) r1 1 t1 (fun r2 t2 => ∀ x3 : Int32, x3 = (if r2 = 0 then 0 else (v_sheetsOf t2)) → Q x3 t2))
set_option maxRecDepth 20000 in
set_option maxHeartbeats 2000000 in
theorem c_sheets (l : Launch) (D : va_G) (cI cZ : ClassId) (mo : Nat) (ad : Nat → Nat) (a1 : Int32) (t : MS) (Q : Int32 → MS → Prop) (h : w_sheets a1 t Q) : MetM l yX12_sheets cX12_sheets 3 (some .int) 9 [.ref mo, .int a1] (pI Q) D cI cZ mo ad t := by
  unfold w_sheets at h
  refine gm_start (by decide) rfl (Nat.le_of_ble_eq_true rfl) (fun p e s m args below meth c C E => ?_)
  refine gm_aload C 0 dX12_sheets_0 rfl ?_
  refine gm_iloadn C 1 1 dX12_sheets_1 rfl rfl ?_
  refine gm_callV C (y := yX12_isPaged) (as := [.int a1]) rfl (by decide) (by decide) (c_isPaged l D cI cZ mo ad a1 t _ h) hy_isPaged rfl wl_339 cu_isPaged dX12_sheets_2 (Nat.le_of_ble_eq_true rfl) (kI (fun r1 t1 h => ?_))
  refine gm_istoren C 2 [(2, .int r1), (0, .ref mo), (1, .int a1)] dX12_sheets_5 rfl (by decide) rfl ?_
  refine gm_aload C 1 dX12_sheets_6 rfl ?_
  refine gm_iloadn C 2 1 dX12_sheets_7 rfl rfl ?_
  refine gm_callS C (y := yX12_isVoice) (as := [.int a1]) rfl (by decide) (by decide) (c_isVoice l D cI cZ mo ad a1 t1) hy_isVoice rfl wl_184 cu_isVoice dX12_sheets_8 (Nat.le_of_ble_eq_true rfl) (kP ?_)
  refine gm_iloadn C 0 2 dX12_sheets_11 rfl rfl ?_
  refine gm_iconst C 1 dX12_sheets_12 (by decide) ?_
  refine gm_callV C (y := yX12_goes) (as := [.int (v_isVoice a1), .int r1, .int 1]) rfl (by decide) (by decide) (c_goes l D cI cZ mo ad (v_isVoice a1) r1 1 t1 _ h) hy_goes rfl wl_165 cu_goes dX12_sheets_13 (Nat.le_of_ble_eq_true rfl) (kI (fun r2 t2 h => ?_))
  have k27 : ∀ x3 : Int32, x3 = (if r2 = 0 then 0 else (v_sheetsOf t2)) → GM p l e (rmD 9) s m args below meth c 3 D cI cZ mo ad (gm_Q below D cI cZ mo ad (pI Q t) args s) t2 27 [] [.int x3] := by
    intro x3 ex3
    have h := h x3 ex3
    exact gm_iret C E dX12_sheets_27 ⟨_, rfl, h⟩
  refine gm_if_eq C 26 dX12_sheets_16 (by decide) (fun c16_1 => ?_) (fun c16_1 => ?_)
  · refine gm_iconst C 0 dX12_sheets_26 (by decide) ?_
    refine gm_sub [] rfl ?_
    exact k27 _ ((if_pos c16_1).symm)
  · refine gm_aload C 1 dX12_sheets_19 rfl ?_
    refine gm_callV C (y := yX12_sheetsOf) (as := []) rfl (by decide) (by decide) (c_sheetsOf l D cI cZ mo ad t2) hy_sheetsOf rfl wl_348 cu_sheetsOf dX12_sheets_20 (Nat.le_of_ble_eq_true rfl) (kP ?_)
    refine gm_goto C 27 dX12_sheets_23 (by decide) ?_
    refine gm_sub [] rfl ?_
    exact k27 _ ((if_neg c16_1).symm)
def w_sheetPage (a1 a2 a3 a4 : Int32) (t : MS) (Q : Int32 → MS → Prop) : Prop := w_isPaged a1 t (fun r1 t1 => ∀ x2 : Int32, x2 = (if (¬ (r1 = 0)) ∧ (¬ ((v_in a2 0 ((v_sheetsOf t1) - 1)) = 0)) then 1 else 0) → w_goes (v_isVoice a1) r1 x2 t1 (fun r3 t3 => ((r3 = 0) → Q 0 t3) ∧ (¬ (r3 = 0) → ∀ x4 : Int32, x4 = (4 * (v_sheetsOf t3)) → ∀ x5 : Int32, x5 = (if a3 = 0 then 2 else 1) → ∀ x6 : Int32, x6 = ((x4 - x5) - (2 * a2)) → ∀ x7 : Int32, x7 = (if a3 = 0 then 1 else 0) → ∀ x8 : Int32, x8 = ((2 * a2) + x7) → ∀ x9 : Int32, x9 = (if a3 = a4 then x6 else x8) → Q x9 t3)))
set_option maxRecDepth 20000 in
set_option maxHeartbeats 2000000 in
theorem c_sheetPage (l : Launch) (D : va_G) (cI cZ : ClassId) (mo : Nat) (ad : Nat → Nat) (a1 a2 a3 a4 : Int32) (t : MS) (Q : Int32 → MS → Prop) (h : w_sheetPage a1 a2 a3 a4 t Q) : MetM l yX12_sheetPage cX12_sheetPage 9 (some .int) 9 [.ref mo, .int a1, .int a2, .int a3, .int a4] (pI Q) D cI cZ mo ad t := by
  unfold w_sheetPage at h
  refine gm_start (by decide) rfl (Nat.le_of_ble_eq_true rfl) (fun p e s m args below meth c C E => ?_)
  refine gm_aload C 0 dX12_sheetPage_0 rfl ?_
  refine gm_iloadn C 1 1 dX12_sheetPage_1 rfl rfl ?_
  refine gm_callV C (y := yX12_isPaged) (as := [.int a1]) rfl (by decide) (by decide) (c_isPaged l D cI cZ mo ad a1 t _ h) hy_isPaged rfl wl_339 cu_isPaged dX12_sheetPage_2 (Nat.le_of_ble_eq_true rfl) (kI (fun r1 t1 h => ?_))
  refine gm_istore C [(5, .int r1), (0, .ref mo), (1, .int a1), (2, .int a2), (3, .int a3), (4, .int a4)] dX12_sheetPage_5 (by decide) rfl ?_
  refine gm_aload C 1 dX12_sheetPage_7 rfl ?_
  refine gm_iloadn C 2 1 dX12_sheetPage_8 rfl rfl ?_
  refine gm_callS C (y := yX12_isVoice) (as := [.int a1]) rfl (by decide) (by decide) (c_isVoice l D cI cZ mo ad a1 t1) hy_isVoice rfl wl_184 cu_isVoice dX12_sheetPage_9 (Nat.le_of_ble_eq_true rfl) (kP ?_)
  refine gm_iload C 0 dX12_sheetPage_12 rfl ?_
  refine gm_iload C 0 dX12_sheetPage_14 rfl ?_
  have k38 : ∀ x2 : Int32, x2 = (if (¬ (r1 = 0)) ∧ (¬ ((v_in a2 0 ((v_sheetsOf t1) - 1)) = 0)) then 1 else 0) → GM p l e (rmD 9) s m args below meth c 9 D cI cZ mo ad (gm_Q below D cI cZ mo ad (pI Q t) args s) t1 38 [(0, .ref mo), (2, .int a2), (3, .int a3), (4, .int a4)] [.int x2, .int r1, .int (v_isVoice a1), .ref mo] := by
    intro x2 ex2
    have h := h x2 ex2
    refine gm_callV C (y := yX12_goes) (as := [.int (v_isVoice a1), .int r1, .int x2]) rfl (by decide) (by decide) (c_goes l D cI cZ mo ad (v_isVoice a1) r1 x2 t1 _ h) hy_goes rfl wl_165 cu_goes dX12_sheetPage_38 (Nat.le_of_ble_eq_true rfl) (kI (fun r3 t3 h => ?_))
    refine gm_if_ne C 46 dX12_sheetPage_41 (by decide) (fun c41_3 => ?_) (fun c41_3 => ?_)
    · have h := h.2 c41_3
      refine gm_iconst C 4 dX12_sheetPage_46 (by decide) ?_
      refine gm_aload C 0 dX12_sheetPage_47 rfl ?_
      refine gm_callV C (y := yX12_sheetsOf) (as := []) rfl (by decide) (by decide) (c_sheetsOf l D cI cZ mo ad t3) hy_sheetsOf rfl wl_348 cu_sheetsOf dX12_sheetPage_48 (Nat.le_of_ble_eq_true rfl) (kP ?_)
      refine gm_imul C dX12_sheetPage_51 ?_
      refine gm_nameI (fun x4 ex4 => ?_)
      have h := h x4 ex4
      refine gm_istore C [(6, .int x4), (0, .ref mo), (2, .int a2), (3, .int a3), (4, .int a4)] dX12_sheetPage_52 (by decide) rfl ?_
      refine gm_iload C 0 dX12_sheetPage_54 rfl ?_
      refine gm_iloadn C 3 3 dX12_sheetPage_56 rfl rfl ?_
      have k65 : ∀ x5 : Int32, x5 = (if a3 = 0 then 2 else 1) → GM p l e (rmD 9) s m args below meth c 9 D cI cZ mo ad (gm_Q below D cI cZ mo ad (pI Q t) args s) t3 65 [(2, .int a2), (3, .int a3), (4, .int a4)] [.int x5, .int x4] := by
        intro x5 ex5
        have h := h x5 ex5
        refine gm_isub C dX12_sheetPage_65 ?_
        refine gm_iconst C 2 dX12_sheetPage_66 (by decide) ?_
        refine gm_iloadn C 0 2 dX12_sheetPage_67 rfl rfl ?_
        refine gm_imul C dX12_sheetPage_68 ?_
        refine gm_isub C dX12_sheetPage_69 ?_
        refine gm_nameI (fun x6 ex6 => ?_)
        have h := h x6 ex6
        refine gm_istore C [(7, .int x6), (2, .int a2), (3, .int a3), (4, .int a4)] dX12_sheetPage_70 (by decide) rfl ?_
        refine gm_iconst C 2 dX12_sheetPage_72 (by decide) ?_
        refine gm_iloadn C 1 2 dX12_sheetPage_73 rfl rfl ?_
        refine gm_imul C dX12_sheetPage_74 ?_
        refine gm_iloadn C 2 3 dX12_sheetPage_75 rfl rfl ?_
        have k84 : ∀ x7 : Int32, x7 = (if a3 = 0 then 1 else 0) → GM p l e (rmD 9) s m args below meth c 9 D cI cZ mo ad (gm_Q below D cI cZ mo ad (pI Q t) args s) t3 84 [(3, .int a3), (4, .int a4), (7, .int x6)] [.int x7, .int (2 * a2)] := by
          intro x7 ex7
          have h := h x7 ex7
          refine gm_iadd C dX12_sheetPage_84 ?_
          refine gm_nameI (fun x8 ex8 => ?_)
          have h := h x8 ex8
          refine gm_istore C [(8, .int x8), (3, .int a3), (4, .int a4), (7, .int x6)] dX12_sheetPage_85 (by decide) rfl ?_
          refine gm_iloadn C 1 3 dX12_sheetPage_87 rfl rfl ?_
          refine gm_iload C 2 dX12_sheetPage_88 rfl ?_
          have k100 : ∀ x9 : Int32, x9 = (if a3 = a4 then x6 else x8) → GM p l e (rmD 9) s m args below meth c 9 D cI cZ mo ad (gm_Q below D cI cZ mo ad (pI Q t) args s) t3 100 [] [.int x9] := by
            intro x9 ex9
            have h := h x9 ex9
            exact gm_iret C E dX12_sheetPage_100 ⟨_, rfl, h⟩
          refine gm_icmp_ne C 98 dX12_sheetPage_90 (by decide) (fun c90_6 => ?_) (fun c90_6 => ?_)
          · refine gm_iload C 0 dX12_sheetPage_98 rfl ?_
            refine gm_sub [] rfl ?_
            exact k100 _ ((if_neg c90_6).symm)
          · refine gm_iload C 3 dX12_sheetPage_93 rfl ?_
            refine gm_goto C 100 dX12_sheetPage_95 (by decide) ?_
            refine gm_sub [] rfl ?_
            exact k100 _ ((if_pos c90_6).symm)
        refine gm_if_eq C 83 dX12_sheetPage_76 (by decide) (fun c76_5 => ?_) (fun c76_5 => ?_)
        · refine gm_iconst C 1 dX12_sheetPage_83 (by decide) ?_
          refine gm_sub [2, 3, 0] rfl ?_
          exact k84 _ ((if_pos c76_5).symm)
        · refine gm_iconst C 0 dX12_sheetPage_79 (by decide) ?_
          refine gm_goto C 84 dX12_sheetPage_80 (by decide) ?_
          refine gm_sub [2, 3, 0] rfl ?_
          exact k84 _ ((if_neg c76_5).symm)
      refine gm_if_eq C 64 dX12_sheetPage_57 (by decide) (fun c57_4 => ?_) (fun c57_4 => ?_)
      · refine gm_iconst C 2 dX12_sheetPage_64 (by decide) ?_
        refine gm_sub [2, 3, 4] rfl ?_
        exact k65 _ ((if_pos c57_4).symm)
      · refine gm_iconst C 1 dX12_sheetPage_60 (by decide) ?_
        refine gm_goto C 65 dX12_sheetPage_61 (by decide) ?_
        refine gm_sub [2, 3, 4] rfl ?_
        exact k65 _ ((if_neg c57_4).symm)
    · have h := h.1 c41_3
      refine gm_iconst C 0 dX12_sheetPage_44 (by decide) ?_
      exact gm_iret C E dX12_sheetPage_45 ⟨_, rfl, h⟩
  refine gm_if_eq C 37 dX12_sheetPage_16 (by decide) (fun c16_1 => ?_) (fun c16_1 => ?_)
  · refine gm_iconst C 0 dX12_sheetPage_37 (by decide) ?_
    refine gm_sub [1, 3, 4, 5] rfl ?_
    exact k38 _ ((if_neg (fun q0 => q0.1 c16_1)).symm)
  · refine gm_iloadn C 3 2 dX12_sheetPage_19 rfl rfl ?_
    refine gm_iconst C 0 dX12_sheetPage_20 (by decide) ?_
    refine gm_aload C 1 dX12_sheetPage_21 rfl ?_
    refine gm_callV C (y := yX12_sheetsOf) (as := []) rfl (by decide) (by decide) (c_sheetsOf l D cI cZ mo ad t1) hy_sheetsOf rfl wl_348 cu_sheetsOf dX12_sheetPage_22 (Nat.le_of_ble_eq_true rfl) (kP ?_)
    refine gm_iconst C 1 dX12_sheetPage_25 (by decide) ?_
    refine gm_isub C dX12_sheetPage_26 ?_
    refine gm_callS C (y := yX12_in) (as := [.int a2, .int 0, .int ((v_sheetsOf t1) - 1)]) rfl (by decide) (by decide) (c_in l D cI cZ mo ad a2 0 ((v_sheetsOf t1) - 1) t1) hy_in rfl wl_135 cu_in dX12_sheetPage_27 (Nat.le_of_ble_eq_true rfl) (kP ?_)
    refine gm_if_eq C 37 dX12_sheetPage_30 (by decide) (fun c30_2 => ?_) (fun c30_2 => ?_)
    · refine gm_iconst C 0 dX12_sheetPage_37 (by decide) ?_
      refine gm_sub [1, 3, 4, 5] rfl ?_
      exact k38 _ ((if_neg (fun q0 => (fun q1 => q1 c30_2) q0.2)).symm)
    · refine gm_iconst C 1 dX12_sheetPage_33 (by decide) ?_
      refine gm_goto C 38 dX12_sheetPage_34 (by decide) ?_
      refine gm_sub [1, 3, 4, 5] rfl ?_
      exact k38 _ ((if_pos ⟨c16_1, c30_2⟩).symm)
