/-! THE CLASS, METHOD BY METHOD (2) -/
def v_X9_isPitchOrRest (a1 : Int32) (a2 : Int32) : Int32 := (if (a1 = 0) ∨ ((¬ ((a1 + a2) < 1)) ∧ (¬ (127 < (a1 + a2)))) then 1 else 0)
theorem vb_X9_isPitchOrRest {a1 : Int32} {a2 : Int32} : gb (v_X9_isPitchOrRest a1 a2) := by unfold v_X9_isPitchOrRest; split <;> first | exact Or.inr rfl | exact Or.inl rfl
set_option maxRecDepth 20000 in
theorem c_X9_isPitchOrRest (l : Launch) (D : va_G) (K : Nat → ClassId) (E0 : Nat) (B : Nat × Nat) (A0 : Nat → Prop) (a1 : Int32) (a2 : Int32) (t : CS) : MetC l yX9_isPitchOrRest cX9_isPitchOrRest 2 (some .boolean) 0 [.int a1, .int a2] (qI (fun r t' => (v_X9_isPitchOrRest a1 a2) = r ∧ t = t')) (fun _ _ => False) D K E0 B A0 t := by
  refine gc_start (by decide) rfl (Nat.le_of_ble_eq_true rfl) (fun p e s m args below meth c C E => ?_)
  refine gc_iloadn C 0 0 dX9_isPitchOrRest_0 rfl rfl ?_
  refine gc_if_eq C 19 dX9_isPitchOrRest_1 (by decide) (fun c1_1 => ?_) (fun c1_1 => ?_)
  · refine gc_iconst C 1 dX9_isPitchOrRest_19 (by decide) ?_
    refine gc_goto C 24 dX9_isPitchOrRest_20 (by decide) ?_
    exact gc_zret C E (Or.inr rfl) (kdLe.rf _) dX9_isPitchOrRest_24 ⟨_, rfl, (Eq.symm ((if_pos (Or.inl c1_1)).symm)), rfl⟩
  · refine gc_iloadn C 0 0 dX9_isPitchOrRest_4 rfl rfl ?_
    refine gc_iloadn C 1 1 dX9_isPitchOrRest_5 rfl rfl ?_
    refine gc_iadd C dX9_isPitchOrRest_6 ?_
    refine gc_iconst C 1 dX9_isPitchOrRest_7 (by decide) ?_
    refine gc_icmp_lt C 23 dX9_isPitchOrRest_8 (by decide) (fun c8_2 => ?_) (fun c8_2 => ?_)
    · refine gc_iconst C 0 dX9_isPitchOrRest_23 (by decide) ?_
      exact gc_zret C E (Or.inl rfl) (kdLe.rf _) dX9_isPitchOrRest_24 ⟨_, rfl, (Eq.symm ((if_neg (fun q0 => Or.elim q0 c1_1 (fun q1 => q1.1 c8_2))).symm)), rfl⟩
    · refine gc_iloadn C 0 0 dX9_isPitchOrRest_11 rfl rfl ?_
      refine gc_iloadn C 1 1 dX9_isPitchOrRest_12 rfl rfl ?_
      refine gc_iadd C dX9_isPitchOrRest_13 ?_
      refine gc_bipush C 127 dX9_isPitchOrRest_14 (by decide) ?_
      refine gc_icmp_gt C 23 dX9_isPitchOrRest_16 (by decide) (fun c16_3 => ?_) (fun c16_3 => ?_)
      · refine gc_iconst C 0 dX9_isPitchOrRest_23 (by decide) ?_
        exact gc_zret C E (Or.inl rfl) (kdLe.rf _) dX9_isPitchOrRest_24 ⟨_, rfl, (Eq.symm ((if_neg (fun q0 => Or.elim q0 c1_1 (fun q1 => (fun q2 => q2 c16_3) q1.2))).symm)), rfl⟩
      · refine gc_iconst C 1 dX9_isPitchOrRest_19 (by decide) ?_
        refine gc_goto C 24 dX9_isPitchOrRest_20 (by decide) ?_
        exact gc_zret C E (Or.inr rfl) (kdLe.rf _) dX9_isPitchOrRest_24 ⟨_, rfl, (Eq.symm ((if_pos (Or.inr ⟨c8_2, c16_3⟩)).symm)), rfl⟩
def v_X9_canBeWritten (a0 : Nat) (a1 : Int32) (a2 : Int32) (t : CS) : Int32 := (v_X9_isPitchOrRest a2 (fA t 195 a0 (Int32.toNatClampNeg a1)))
def d_X9_canBeWritten (a0 : Nat) (a1 : Int32) (a2 : Int32) (t : CS) : Prop := (kdC t a0 = 12) ∧ (vp_in a1 (cLN 195))
set_option maxRecDepth 20000 in
theorem c_X9_canBeWritten (l : Launch) (D : va_G) (K : Nat → ClassId) (E0 : Nat) (B : Nat × Nat) (A0 : Nat → Prop) (a0 : Nat) (a1 : Int32) (a2 : Int32) (t : CS) (h : d_X9_canBeWritten a0 a1 a2 t) : MetC l yX9_canBeWritten cX9_canBeWritten 3 (some .boolean) 1 [.ref a0, .int a1, .int a2] (qI (fun r t' => (v_X9_canBeWritten a0 a1 a2 t) = r ∧ t = t')) (fun _ _ => False) D K E0 B A0 t := by
  obtain ⟨u1, u2⟩ := h
  refine gc_start (by decide) rfl (Nat.le_of_ble_eq_true rfl) (fun p e s m args below meth c C E => ?_)
  refine gc_iloadn C 2 2 dX9_canBeWritten_0 rfl rfl ?_
  refine gc_aloadn C 0 0 dX9_canBeWritten_1 rfl rfl ?_
  refine gc_getE C BX9 195 3 (by decide) rfl fe_195 vf_X9_24 rfl u1 dX9_canBeWritten_2 ?_
  refine gc_iloadn C 1 1 dX9_canBeWritten_5 rfl rfl ?_
  refine gc_iald C (ci := 12) (k0 := 3) 195 (by decide) (by decide) (by decide) rfl ft_195 (by decide) u1 u2 dX9_canBeWritten_6 ?_
  refine gc_callS C (y := yX9_isPitchOrRest) (as := [.int a2, .int (fA t 195 a0 (Int32.toNatClampNeg a1))]) rfl (by decide) (by decide) (c_X9_isPitchOrRest l D K E0 B A0 a2 (fA t 195 a0 (Int32.toNatClampNeg a1)) t) hk_X9_isPitchOrRest rfl vl_X9_89 kc_X9_isPitchOrRest dX9_canBeWritten_7 (Nat.le_of_ble_eq_true rfl) (fun _ _ h => h.elim) (qkIP ?_)
  exact gc_zret C E (vb_X9_isPitchOrRest ..) (kdLe.rf _) dX9_canBeWritten_10 ⟨_, rfl, (rfl), rfl⟩
def w_X0_init (B : Nat × Nat) (a0 : Nat) (a1 : Int32) (a2 : Int32) (a3 : Int32) (t : CS) (Q : CS → Prop) (X : String → CS → Prop) : Prop := (kdC t a0 = 3) ∧ ∀ t2 : CS, t2 = usI t 50 a0 a1 → ∀ t3 : CS, t3 = usI t2 49 a0 a3 → (d_X0_ticksOf a2 a3) ∧ ∀ t5 : CS, t5 = usI t3 48 a0 (v_X0_ticksOf a2 a3) → ∀ t6 : CS, t6 = usI t5 52 a0 (-1) → Q t6
set_option maxRecDepth 20000 in
set_option maxHeartbeats 2000000 in
theorem c_X0_init (l : Launch) (D : va_G) (K : Nat → ClassId) (E0 : Nat) (B : Nat × Nat) (A0 : Nat → Prop) (a0 : Nat) (a1 : Int32) (a2 : Int32) (a3 : Int32) (t : CS) (Q : CS → Prop) (X : String → CS → Prop) (h : w_X0_init B a0 a1 a2 a3 t Q X) : MetC l yX0_init cX0_init 4 none 1 [.ref a0, .int a1, .int a2, .int a3] (qV Q) X D K E0 B A0 t := by
  unfold w_X0_init at h
  refine gc_start (by decide) rfl (Nat.le_of_ble_eq_true rfl) (fun p e s m args below meth c C E => ?_)
  refine gc_aloadn C 0 0 dX0_init_0 rfl rfl ?_
  refine gc_objInit C rfl (by decide) vo_X0_3 (Nat.le_of_ble_eq_true rfl) dX0_init_1 ?_
  refine gc_aloadn C 0 0 dX0_init_4 rfl rfl ?_
  refine gc_iloadn C 1 1 dX0_init_5 rfl rfl ?_
  obtain ⟨g1, h⟩ := h
  refine gc_putI C BX0 50 2 (by decide) rfl .int ft_50 vf_X0_9 rfl rfl (by decide +kernel) rfl rfl (isC_of g1 (by decide)) dX0_init_6 ?_
  refine gc_nameS (fun t2 et2 => ?_)
  have h := h t2 et2
  have lt2 : kdLe t t2 := kdLe.eq (by rw [et2]; rfl)
  refine gc_aloadn C 0 0 dX0_init_9 rfl rfl ?_
  refine gc_iloadn C 3 3 dX0_init_10 rfl rfl ?_
  refine gc_putIF C BX0 49 1 (by decide) rfl .int ft_49 vf_X0_15 rfl rfl E.2 rfl (by decide +kernel) rfl rfl (isC_of (kdLe.k lt2 g1 (by decide) (by decide)) (by decide)) dX0_init_11 ?_
  refine gc_nameS (fun t3 et3 => ?_)
  have h := h t3 et3
  have lt3 : kdLe t2 t3 := kdLe.eq (by rw [et3]; rfl)
  refine gc_aloadn C 0 0 dX0_init_14 rfl rfl ?_
  refine gc_iloadn C 2 2 dX0_init_15 rfl rfl ?_
  refine gc_iloadn C 3 3 dX0_init_16 rfl rfl ?_
  obtain ⟨g4, h⟩ := h
  refine gc_callS C (y := yX0_ticksOf) (as := [.int a2, .int a3]) rfl (by decide) (by decide) (c_X0_ticksOf l D K E0 B A0 a2 a3 t3 g4) hk_X0_ticksOf rfl vl_X0_18 kc_X0_ticksOf dX0_init_17 (Nat.le_of_ble_eq_true rfl) (fun _ _ h => h.elim) (qkIP ?_)
  refine gc_putIF C BX0 48 0 (by decide) rfl .int ft_48 vf_X0_22 rfl rfl E.2 rfl (by decide +kernel) rfl rfl (isC_of (kdLe.k (kdLe.tr lt2 lt3) g1 (by decide) (by decide)) (by decide)) dX0_init_20 ?_
  refine gc_nameS (fun t5 et5 => ?_)
  have h := h t5 et5
  have lt5 : kdLe t3 t5 := kdLe.eq (by rw [et5]; rfl)
  refine gc_aloadn C 0 0 dX0_init_23 rfl rfl ?_
  refine gc_iconst C (-1) dX0_init_24 (by decide) ?_
  refine gc_putI C BX0 52 4 (by decide) rfl .int ft_52 vf_X0_25 rfl rfl (by decide +kernel) rfl rfl (isC_of (kdLe.k (kdLe.tr lt2 (kdLe.tr lt3 lt5)) g1 (by decide) (by decide)) (by decide)) dX0_init_25 ?_
  refine gc_nameS (fun t6 et6 => ?_)
  have h := h t6 et6
  have lt6 : kdLe t5 t6 := kdLe.eq (by rw [et6]; rfl)
  exact gc_vret C E (kdLe.tr lt2 (kdLe.tr lt3 (kdLe.tr lt5 lt6))) dX0_init_28 ⟨rfl, h⟩
def w_X8_putIn (B : Nat × Nat) (a0 : Nat) (a1 : Int32) (a2 : Nat) (t : CS) (Q : CS → Prop) (X : String → CS → Prop) : Prop := (kdC t a0 = 11) ∧ ((fL t 176 a0).length < 2147483647) ∧ (vp_in a1 ((fL t 176 a0).length + 1)) ∧ (lOK t 176 a0) ∧ (kdC t a2 = 3) ∧ (szC t + lcA t 176 a0 ≤ B.1 ∧ nsC t + lcS t 176 a0 ≤ B.2) ∧ ∀ sz7 ns7 : Nat, szC t ≤ sz7 → sz7 ≤ szC t + lcA t 176 a0 → ns7 ≤ nsC t + lcS t 176 a0 → ∀ t8 : CS, t8 = usL t 176 a0 (l_ins (fL t 176 a0) (Int32.toNatClampNeg a1) a2) (capA t 176 a0) sz7 ns7 → ∀ t9 : CS, t9 = usI t8 177 a0 ((fI t8 177 a0) + (fI t8 48 a2)) → Q t9
set_option maxRecDepth 20000 in
set_option maxHeartbeats 2000000 in
theorem c_X8_putIn (l : Launch) (D : va_G) (K : Nat → ClassId) (E0 : Nat) (B : Nat × Nat) (A0 : Nat → Prop) (a0 : Nat) (a1 : Int32) (a2 : Nat) (t : CS) (Q : CS → Prop) (X : String → CS → Prop) (h : w_X8_putIn B a0 a1 a2 t Q X) : MetC l yX8_putIn cX8_putIn 3 none 7 [.ref a0, .int a1, .ref a2] (qV Q) X D K E0 B A0 t := by
  unfold w_X8_putIn at h
  refine gc_start (by decide) rfl (Nat.le_of_ble_eq_true rfl) (fun p e s m args below meth c C E => ?_)
  refine gc_aloadn C 0 0 dX8_putIn_0 rfl rfl ?_
  obtain ⟨g1, h⟩ := h
  refine gc_getE C BX8 176 0 (by decide) rfl fe_176 vf_X8_12 rfl g1 dX8_putIn_1 ?_
  refine gc_iloadn C 1 1 dX8_putIn_4 rfl rfl ?_
  refine gc_aloadn C 2 2 dX8_putIn_5 rfl rfl ?_
  obtain ⟨g2, h⟩ := h
  obtain ⟨g3, h⟩ := h
  obtain ⟨g4, h⟩ := h
  obtain ⟨g5, h⟩ := h
  obtain ⟨g6, h⟩ := h
  refine gc_lsIns C (ci := 11) (k0 := 0) 176 (by decide) (by decide) (by decide) rfl ft_176 rfl (by decide) (ce := 3) (rr := (RX0, TX0, 6)) (by decide +kernel) (by decide) (by decide) rfl n_i1735 g2 g3 g1 g4 g5 g6 vj_X8_32 dX8_putIn_6 (Nat.le_of_ble_eq_true rfl) (fun sz7 ns7 y7a y7b y7c => ?_)
  have h := h sz7 ns7 y7a y7b y7c
  refine gc_nameS (fun t8 et8 => ?_)
  have h := h t8 et8
  have lt8 : kdLe t t8 := kdLe.eq (by rw [et8]; rfl)
  refine gc_aloadn C 0 0 dX8_putIn_9 rfl rfl ?_
  refine gc_dup C dX8_putIn_10 rfl ?_
  refine gc_getI C BX8 177 1 (by decide) rfl ft_177 vf_X8_36 rfl (isC_of (kdLe.k lt8 g1 (by decide) (by decide)) (by decide)) dX8_putIn_11 ?_
  refine gc_aloadn C 2 2 dX8_putIn_14 rfl rfl ?_
  refine gc_getI C BX0 48 0 (by decide) rfl ft_48 vf_X8_40 rfl (isC_of (kdLe.k lt8 g5 (by decide) (by decide)) (by decide)) dX8_putIn_15 ?_
  refine gc_iadd C dX8_putIn_18 ?_
  refine gc_putI C BX8 177 1 (by decide) rfl .int ft_177 vf_X8_36 rfl rfl (by decide +kernel) rfl rfl (isC_of (kdLe.k lt8 g1 (by decide) (by decide)) (by decide)) dX8_putIn_19 ?_
  refine gc_nameS (fun t9 et9 => ?_)
  have h := h t9 et9
  have lt9 : kdLe t8 t9 := kdLe.eq (by rw [et9]; rfl)
  exact gc_vret C E (kdLe.tr lt8 lt9) dX8_putIn_22 ⟨rfl, h⟩
def w_X11_insert (B : Nat × Nat) (a0 : Nat) (a1 : Int32) (a2 : Int32) (a3 : Int32) (a4 : Int32) (a5 : Int32) (a6 : Int32) (t : CS) (Q : Int32 → CS → Prop) (X : String → CS → Prop) : Prop := w_X11_requireVoice B a1 t (fun t1 => w_X11_requireRange B a4 0 127 t1 (fun t2 => w_X11_requireRange B a5 0 5 t2 (fun t3 => w_X11_requireRange B a6 0 2 t3 (fun t4 => (((a5 = 5) ∧ (a6 = 1)) → (szC t4 + 1 ≤ B.1 ∧ nsC t4 + 6 ≤ B.2) ∧ ∀ sz ns : Nat, X "java/lang/IllegalArgumentException" (rsz t4 sz ns)) ∧ (¬ ((a5 = 5) ∧ (a6 = 1)) → (kdC t4 a0 = 14) ∧ w_X11_requireBar B a0 a2 t4 (fun t7 => ((fR t7 224 a0) ≠ none) ∧ (kdC t7 (oG (fR t7 224 a0)) = 12) ∧ (d_X9_row (oG (fR t7 224 a0)) a1 a2 t7) ∧ (kdC t7 (v_X9_row (oG (fR t7 224 a0)) a1 a2 t7) = 11) ∧ (d_X8_size (v_X9_row (oG (fR t7 224 a0)) a1 a2 t7) t7) ∧ w_X11_requireIndex B a3 ((v_X8_size (v_X9_row (oG (fR t7 224 a0)) a1 a2 t7) t7) + 1) t7 (fun t13 => ((fR t13 224 a0) ≠ none) ∧ (kdC t13 (oG (fR t13 224 a0)) = 12) ∧ (d_X9_ticksLeft (oG (fR t13 224 a0)) a1 a2 t13) ∧ (d_X0_ticksOf a5 a6) ∧ ∀ x18 : Int32, x18 = ((v_X9_ticksLeft (oG (fR t13 224 a0)) a1 a2 t13) - (v_X0_ticksOf a5 a6)) → (d_X8_size (v_X9_row (oG (fR t7 224 a0)) a1 a2 t7) t13) ∧ ((¬ (16 ≤ (v_X8_size (v_X9_row (oG (fR t7 224 a0)) a1 a2 t7) t13))) → (¬ (x18 < 0)) → d_X9_canBeWritten (oG (fR t13 224 a0)) a1 a4 t13) ∧ (((16 ≤ (v_X8_size (v_X9_row (oG (fR t7 224 a0)) a1 a2 t7) t13)) ∨ ((x18 < 0) ∨ ((v_X9_canBeWritten (oG (fR t13 224 a0)) a1 a4 t13) = 0))) → (szC t13 + 1 ≤ B.1 ∧ nsC t13 + 6 ≤ B.2) ∧ ∀ sz ns : Nat, X "java/lang/IllegalStateException" (rsz t13 sz ns)) ∧ (¬ ((16 ≤ (v_X8_size (v_X9_row (oG (fR t7 224 a0)) a1 a2 t7) t13)) ∨ ((x18 < 0) ∨ ((v_X9_canBeWritten (oG (fR t13 224 a0)) a1 a4 t13) = 0))) → (szC t13 + 1 ≤ B.1 ∧ nsC t13 + cNF 3 ≤ B.2) ∧ ∀ _ : kdC t13 (szC t13) = 0, ∀ t24 : CS, t24 = newO t13 3 → w_X0_init B (szC t13) a4 a5 a6 t24 (fun t25 => w_X8_putIn B (v_X9_row (oG (fR t7 224 a0)) a1 a2 t7) a3 (szC t13) t25 (fun t26 => ((fR t26 224 a0) ≠ none) ∧ (kdC t26 (oG (fR t26 224 a0)) = 12) ∧ ∀ t29 : CS, t29 = usI t26 199 (oG (fR t26 224 a0)) ((fI t26 199 (oG (fR t26 224 a0))) + 1) → Q x18 t29) X) X)) X) X)) X) X) X) X
set_option maxRecDepth 20000 in
set_option maxHeartbeats 2000000 in
theorem c_X11_insert (l : Launch) (D : va_G) (K : Nat → ClassId) (E0 : Nat) (B : Nat × Nat) (A0 : Nat → Prop) (a0 : Nat) (a1 : Int32) (a2 : Int32) (a3 : Int32) (a4 : Int32) (a5 : Int32) (a6 : Int32) (t : CS) (Q : Int32 → CS → Prop) (X : String → CS → Prop) (h : w_X11_insert B a0 a1 a2 a3 a4 a5 a6 t Q X) : MetC l yX11_insert cX11_insert 9 (some .int) 8 [.ref a0, .int a1, .int a2, .int a3, .int a4, .int a5, .int a6] (qI Q) X D K E0 B A0 t := by
  unfold w_X11_insert at h
  refine gc_start (by decide) rfl (Nat.le_of_ble_eq_true rfl) (fun p e s m args below meth c C E => ?_)
  refine gc_iloadn C 1 1 dX11_insert_0 rfl rfl ?_
  refine gc_callS C (y := yX11_requireVoice) (as := [.int a1]) rfl (by decide) (by decide) (c_X11_requireVoice l D K E0 B A0 a1 t _ X h) hk_X11_requireVoice rfl vl_X11_102 kc_X11_requireVoice dX11_insert_1 (Nat.le_of_ble_eq_true rfl) (fun _ _ h => h) (qkV (fun t1 h lt1 => ?_))
  refine gc_iload C 4 dX11_insert_4 rfl ?_
  refine gc_iconst C 0 dX11_insert_6 (by decide) ?_
  refine gc_bipush C 127 dX11_insert_7 (by decide) ?_
  refine gc_callS C (y := yX11_requireRange) (as := [.int a4, .int 0, .int 127]) rfl (by decide) (by decide) (c_X11_requireRange l D K E0 B A0 a4 0 127 t1 _ X h) hk_X11_requireRange rfl vl_X11_88 kc_X11_requireRange dX11_insert_9 (Nat.le_of_ble_eq_true rfl) (fun _ _ h => h) (qkV (fun t2 h lt2 => ?_))
  refine gc_iload C 5 dX11_insert_12 rfl ?_
  refine gc_iconst C 0 dX11_insert_14 (by decide) ?_
  refine gc_iconst C 5 dX11_insert_15 (by decide) ?_
  refine gc_callS C (y := yX11_requireRange) (as := [.int a5, .int 0, .int 5]) rfl (by decide) (by decide) (c_X11_requireRange l D K E0 B A0 a5 0 5 t2 _ X h) hk_X11_requireRange rfl vl_X11_88 kc_X11_requireRange dX11_insert_16 (Nat.le_of_ble_eq_true rfl) (fun _ _ h => h) (qkV (fun t3 h lt3 => ?_))
  refine gc_iload C 6 dX11_insert_19 rfl ?_
  refine gc_iconst C 0 dX11_insert_21 (by decide) ?_
  refine gc_iconst C 2 dX11_insert_22 (by decide) ?_
  refine gc_callS C (y := yX11_requireRange) (as := [.int a6, .int 0, .int 2]) rfl (by decide) (by decide) (c_X11_requireRange l D K E0 B A0 a6 0 2 t3 _ X h) hk_X11_requireRange rfl vl_X11_88 kc_X11_requireRange dX11_insert_23 (Nat.le_of_ble_eq_true rfl) (fun _ _ h => h) (qkV (fun t4 h lt4 => ?_))
  refine gc_iload C 5 dX11_insert_26 rfl ?_
  refine gc_iconst C 5 dX11_insert_28 (by decide) ?_
  have kt0 : ((a5 = 5) ∧ (a6 = 1)) → GC p l e (rmC 8 B t) s m args below meth c 9 D K E0 B A0 (gc_Q below D K E0 A0 (qI Q) X args s t (rmC 8 B t)) t4 38 [(0, .ref a0), (1, .int a1), (2, .int a2), (3, .int a3), (4, .int a4), (5, .int a5), (6, .int a6)] [] := by
    intro hc
    have h := h.1 hc
    obtain ⟨g5, h⟩ := h
    exact gc_throwS C (text := "the shortest kind cannot be dotted") rfl (by decide) (Nat.le_of_ble_eq_true rfl) ex_X11_105_109 (by decide +kernel) dX11_insert_38 dX11_insert_41 dX11_insert_42 dX11_insert_44 dX11_insert_47 g5 h
  have kf0 : ¬ ((a5 = 5) ∧ (a6 = 1)) → GC p l e (rmC 8 B t) s m args below meth c 9 D K E0 B A0 (gc_Q below D K E0 A0 (qI Q) X args s t (rmC 8 B t)) t4 48 [(0, .ref a0), (1, .int a1), (2, .int a2), (3, .int a3), (4, .int a4), (5, .int a5), (6, .int a6)] [] := by
    intro hc
    have h := h.2 hc
    refine gc_aloadn C 0 0 dX11_insert_48 rfl rfl ?_
    refine gc_iloadn C 2 2 dX11_insert_49 rfl rfl ?_
    obtain ⟨g6, h⟩ := h
    refine gc_callV C BX11 (y := yX11_requireBar) (as := [.int a2]) rfl (by decide) (by decide) (c_X11_requireBar l D K E0 B A0 a0 a2 t4 _ X h) hk_X11_requireBar rfl vl_X11_62 kc_X11_requireBar (isC_of g6 (by decide)) dX11_insert_50 (Nat.le_of_ble_eq_true rfl) (fun _ _ h => h) (qkV (fun t7 h lt7 => ?_))
    refine gc_aloadn C 0 0 dX11_insert_53 rfl rfl ?_
    obtain ⟨g8, h⟩ := h
    refine gc_getR C BX11 224 0 (by decide) rfl ft_224 vf_X11_10 rfl (isC_of (kdLe.k lt7 g6 (by decide) (by decide)) (by decide)) (oG (fR t7 224 a0)) (oG_some g8) dX11_insert_54 ?_
    refine gc_iloadn C 1 1 dX11_insert_57 rfl rfl ?_
    refine gc_iloadn C 2 2 dX11_insert_58 rfl rfl ?_
    obtain ⟨g9, h⟩ := h
    obtain ⟨g10, h⟩ := h
    refine gc_callV C BX9 (y := yX9_row) (as := [.int a1, .int a2]) rfl (by decide) (by decide) (c_X9_row l D K E0 B A0 (oG (fR t7 224 a0)) a1 a2 t7 g10) hk_X9_row rfl vl_X11_110 kc_X9_row (isC_of g9 (by decide)) dX11_insert_59 (Nat.le_of_ble_eq_true rfl) (fun _ _ h => h.elim) (qkRP ?_)
    refine gc_astore C [(7, .ref (v_X9_row (oG (fR t7 224 a0)) a1 a2 t7)), (0, .ref a0), (1, .int a1), (2, .int a2), (3, .int a3), (4, .int a4), (5, .int a5), (6, .int a6)] dX11_insert_62 (by decide) rfl ?_
    refine gc_iloadn C 4 3 dX11_insert_64 rfl rfl ?_
    refine gc_aload C 0 dX11_insert_65 rfl ?_
    obtain ⟨g11, h⟩ := h
    obtain ⟨g12, h⟩ := h
    refine gc_callV C BX8 (y := yX8_size) (as := []) rfl (by decide) (by decide) (c_X8_size l D K E0 B A0 (v_X9_row (oG (fR t7 224 a0)) a1 a2 t7) t7 g12) hk_X8_size rfl vl_X11_114 kc_X8_size (isC_of g11 (by decide)) dX11_insert_67 (Nat.le_of_ble_eq_true rfl) (fun _ _ h => h.elim) (qkIP ?_)
    refine gc_iconst C 1 dX11_insert_70 (by decide) ?_
    refine gc_iadd C dX11_insert_71 ?_
    refine gc_callS C (y := yX11_requireIndex) (as := [.int a3, .int ((v_X8_size (v_X9_row (oG (fR t7 224 a0)) a1 a2 t7) t7) + 1)]) rfl (by decide) (by decide) (c_X11_requireIndex l D K E0 B A0 a3 ((v_X8_size (v_X9_row (oG (fR t7 224 a0)) a1 a2 t7) t7) + 1) t7 _ X h) hk_X11_requireIndex rfl vl_X11_119 kc_X11_requireIndex dX11_insert_72 (Nat.le_of_ble_eq_true rfl) (fun _ _ h => h) (qkV (fun t13 h lt13 => ?_))
    refine gc_aloadn C 1 0 dX11_insert_75 rfl rfl ?_
    obtain ⟨g14, h⟩ := h
    refine gc_getR C BX11 224 0 (by decide) rfl ft_224 vf_X11_10 rfl (isC_of (kdLe.k (kdLe.tr lt7 lt13) g6 (by decide) (by decide)) (by decide)) (oG (fR t13 224 a0)) (oG_some g14) dX11_insert_76 ?_
    refine gc_iloadn C 2 1 dX11_insert_79 rfl rfl ?_
    refine gc_iloadn C 3 2 dX11_insert_80 rfl rfl ?_
    obtain ⟨g15, h⟩ := h
    obtain ⟨g16, h⟩ := h
    refine gc_callV C BX9 (y := yX9_ticksLeft) (as := [.int a1, .int a2]) rfl (by decide) (by decide) (c_X9_ticksLeft l D K E0 B A0 (oG (fR t13 224 a0)) a1 a2 t13 g16) hk_X9_ticksLeft rfl vl_X11_122 kc_X9_ticksLeft (isC_of g15 (by decide)) dX11_insert_81 (Nat.le_of_ble_eq_true rfl) (fun _ _ h => h.elim) (qkIP ?_)
    refine gc_iload C 6 dX11_insert_84 rfl ?_
    refine gc_iload C 7 dX11_insert_86 rfl ?_
    obtain ⟨g17, h⟩ := h
    refine gc_callS C (y := yX0_ticksOf) (as := [.int a5, .int a6]) rfl (by decide) (by decide) (c_X0_ticksOf l D K E0 B A0 a5 a6 t13 g17) hk_X0_ticksOf rfl vl_X11_125 kc_X0_ticksOf dX11_insert_88 (Nat.le_of_ble_eq_true rfl) (fun _ _ h => h.elim) (qkIP ?_)
    refine gc_isub C dX11_insert_91 ?_
    refine gc_nameI (fun x18 ex18 => ?_)
    have h := h x18 ex18
    refine gc_istore C [(8, .int x18), (7, .ref (v_X9_row (oG (fR t7 224 a0)) a1 a2 t7)), (0, .ref a0), (1, .int a1), (2, .int a2), (3, .int a3), (4, .int a4), (5, .int a5), (6, .int a6)] dX11_insert_92 (by decide) rfl ?_
    refine gc_aload C 1 dX11_insert_94 rfl ?_
    obtain ⟨g19, h⟩ := h
    refine gc_callV C BX8 (y := yX8_size) (as := []) rfl (by decide) (by decide) (c_X8_size l D K E0 B A0 (v_X9_row (oG (fR t7 224 a0)) a1 a2 t7) t13 g19) hk_X8_size rfl vl_X11_114 kc_X8_size (isC_of (kdLe.k lt13 g11 (by decide) (by decide)) (by decide)) dX11_insert_96 (Nat.le_of_ble_eq_true rfl) (fun _ _ h => h.elim) (qkIP ?_)
    refine gc_bipush C 16 dX11_insert_99 (by decide) ?_
    obtain ⟨g20, h⟩ := h
    have kt48 : ((16 ≤ (v_X8_size (v_X9_row (oG (fR t7 224 a0)) a1 a2 t7) t13)) ∨ ((x18 < 0) ∨ ((v_X9_canBeWritten (oG (fR t13 224 a0)) a1 a4 t13) = 0))) → GC p l e (rmC 8 B t) s m args below meth c 9 D K E0 B A0 (gc_Q below D K E0 A0 (qI Q) X args s t (rmC 8 B t)) t13 122 [(8, .int x18), (7, .ref (v_X9_row (oG (fR t7 224 a0)) a1 a2 t7)), (0, .ref a0), (1, .int a1), (2, .int a2), (3, .int a3), (4, .int a4), (5, .int a5), (6, .int a6)] [] := by
      intro hc
      have h := h.1 hc
      obtain ⟨g21, h⟩ := h
      exact gc_throwS C (text := "the event has no room there or cannot be written") rfl (by decide) (Nat.le_of_ble_eq_true rfl) ex_X11_37_41 (by decide +kernel) dX11_insert_122 dX11_insert_125 dX11_insert_126 dX11_insert_128 dX11_insert_131 g21 h
    have kf48 : ¬ ((16 ≤ (v_X8_size (v_X9_row (oG (fR t7 224 a0)) a1 a2 t7) t13)) ∨ ((x18 < 0) ∨ ((v_X9_canBeWritten (oG (fR t13 224 a0)) a1 a4 t13) = 0))) → GC p l e (rmC 8 B t) s m args below meth c 9 D K E0 B A0 (gc_Q below D K E0 A0 (qI Q) X args s t (rmC 8 B t)) t13 132 [(8, .int x18), (7, .ref (v_X9_row (oG (fR t7 224 a0)) a1 a2 t7)), (0, .ref a0), (1, .int a1), (2, .int a2), (3, .int a3), (4, .int a4), (5, .int a5), (6, .int a6)] [] := by
      intro hc
      have h := h.2 hc
      refine gc_aload C 1 dX11_insert_132 rfl ?_
      refine gc_iloadn C 5 3 dX11_insert_134 rfl rfl ?_
      obtain ⟨g22, h⟩ := h
      refine gc_new C BX0 hd_X0 vn_X11_126 g22 dX11_insert_135 (fun hz23 => ?_)
      have h := h hz23
      refine gc_nameS (fun t24 et24 => ?_)
      have h := h t24 et24
      have lt24 : kdLe t13 t24 := by rw [et24]; exact newO_le hz23
      refine gc_dup C dX11_insert_138 rfl ?_
      refine gc_iload C 6 dX11_insert_139 rfl ?_
      refine gc_iload C 7 dX11_insert_141 rfl ?_
      refine gc_iload C 8 dX11_insert_143 rfl ?_
      refine gc_callI C (y := yX0_init) (as := [.int a4, .int a5, .int a6]) rfl (by decide) (by decide) (c_X0_init l D K E0 B A0 (szC t13) a4 a5 a6 t24 _ X h) hk_X0_init rfl rfl vl_X11_134 kc_X0_init dX11_insert_145 (Nat.le_of_ble_eq_true rfl) (fun _ _ h => h) (qkV (fun t25 h lt25 => ?_))
      refine gc_callV C BX8 (y := yX8_putIn) (as := [.int a3, .ref (szC t13)]) rfl (by decide) (by decide) (c_X8_putIn l D K E0 B A0 (v_X9_row (oG (fR t7 224 a0)) a1 a2 t7) a3 (szC t13) t25 _ X h) hk_X8_putIn rfl vl_X11_136 kc_X8_putIn (isC_of (kdLe.k (kdLe.tr lt13 (kdLe.tr lt24 lt25)) g11 (by decide) (by decide)) (by decide)) dX11_insert_148 (Nat.le_of_ble_eq_true rfl) (fun _ _ h => h) (qkV (fun t26 h lt26 => ?_))
      refine gc_aloadn C 2 0 dX11_insert_151 rfl rfl ?_
      obtain ⟨g27, h⟩ := h
      refine gc_getR C BX11 224 0 (by decide) rfl ft_224 vf_X11_10 rfl (isC_of (kdLe.k (kdLe.tr lt7 (kdLe.tr lt13 (kdLe.tr lt24 (kdLe.tr lt25 lt26)))) g6 (by decide) (by decide)) (by decide)) (oG (fR t26 224 a0)) (oG_some g27) dX11_insert_152 ?_
      refine gc_dup C dX11_insert_155 rfl ?_
      obtain ⟨g28, h⟩ := h
      refine gc_getI C BX9 199 7 (by decide) rfl ft_199 vf_X11_58 rfl (isC_of g28 (by decide)) dX11_insert_156 ?_
      refine gc_iconst C 1 dX11_insert_159 (by decide) ?_
      refine gc_iadd C dX11_insert_160 ?_
      refine gc_putI C BX9 199 7 (by decide) rfl .int ft_199 vf_X11_58 rfl rfl (by decide +kernel) rfl rfl (isC_of g28 (by decide)) dX11_insert_161 ?_
      refine gc_nameS (fun t29 et29 => ?_)
      have h := h t29 et29
      have lt29 : kdLe t26 t29 := kdLe.eq (by rw [et29]; rfl)
      refine gc_iload C 0 dX11_insert_164 rfl ?_
      exact gc_iret C E (kdLe.tr lt1 (kdLe.tr lt2 (kdLe.tr lt3 (kdLe.tr lt4 (kdLe.tr lt7 (kdLe.tr lt13 (kdLe.tr lt24 (kdLe.tr lt25 (kdLe.tr lt26 lt29))))))))) dX11_insert_166 ⟨_, rfl, h⟩
    refine gc_icmp_ge C 122 dX11_insert_101 (by decide) (fun c101_3 => ?_) (fun c101_3 => ?_)
    · exact kt48 (Or.inl c101_3)
    · refine gc_iload C 0 dX11_insert_104 rfl ?_
      refine gc_if_lt C 122 dX11_insert_106 (by decide) (fun c106_4 => ?_) (fun c106_4 => ?_)
      · exact kt48 (Or.inr (Or.inl c106_4))
      · refine gc_aloadn C 2 0 dX11_insert_109 rfl rfl ?_
        refine gc_getR C BX11 224 0 (by decide) rfl ft_224 vf_X11_10 rfl (isC_of (kdLe.k (kdLe.tr lt7 lt13) g6 (by decide) (by decide)) (by decide)) (oG (fR t13 224 a0)) (oG_some g14) dX11_insert_110 ?_
        refine gc_iloadn C 3 1 dX11_insert_113 rfl rfl ?_
        refine gc_iload C 6 dX11_insert_114 rfl ?_
        refine gc_callV C BX9 (y := yX9_canBeWritten) (as := [.int a1, .int a4]) rfl (by decide) (by decide) (c_X9_canBeWritten l D K E0 B A0 (oG (fR t13 224 a0)) a1 a4 t13 (g20 c101_3 c106_4)) hk_X9_canBeWritten rfl vl_X11_128 kc_X9_canBeWritten (isC_of g15 (by decide)) dX11_insert_116 (Nat.le_of_ble_eq_true rfl) (fun _ _ h => h.elim) (qkIP ?_)
        refine gc_if_ne C 132 dX11_insert_119 (by decide) (fun c119_5 => ?_) (fun c119_5 => ?_)
        · exact kf48 (fun q0 => Or.elim q0 c101_3 (fun q1 => Or.elim q1 c106_4 c119_5))
        · exact kt48 (Or.inr (Or.inr c119_5))
  refine gc_icmp_ne C 48 dX11_insert_29 (by decide) (fun c29_1 => ?_) (fun c29_1 => ?_)
  · exact kf0 (fun q0 => c29_1 q0.1)
  · refine gc_iload C 6 dX11_insert_32 rfl ?_
    refine gc_iconst C 1 dX11_insert_34 (by decide) ?_
    refine gc_icmp_ne C 48 dX11_insert_35 (by decide) (fun c35_2 => ?_) (fun c35_2 => ?_)
    · exact kf0 (fun q0 => c35_2 q0.2)
    · exact kt0 ⟨c29_1, c35_2⟩
def v_X8_get (a0 : Nat) (a1 : Int32) (t : CS) : Nat := (lG t 176 a0 a1)
def d_X8_get (a0 : Nat) (a1 : Int32) (t : CS) : Prop := (kdC t a0 = 11) ∧ (lIn t 176 a0 a1) ∧ (kdC t (lG t 176 a0 a1) = 3)
set_option maxRecDepth 20000 in
theorem c_X8_get (l : Launch) (D : va_G) (K : Nat → ClassId) (E0 : Nat) (B : Nat × Nat) (A0 : Nat → Prop) (a0 : Nat) (a1 : Int32) (t : CS) (h : d_X8_get a0 a1 t) : MetC l yX8_get cX8_get 2 (some (.object RX0)) 3 [.ref a0, .int a1] (qR (fun r t' => (v_X8_get a0 a1 t) = r ∧ t = t')) (fun _ _ => False) D K E0 B A0 t := by
  obtain ⟨u1, u2, u3⟩ := h
  refine gc_start (by decide) rfl (Nat.le_of_ble_eq_true rfl) (fun p e s m args below meth c C E => ?_)
  refine gc_aloadn C 0 0 dX8_get_0 rfl rfl ?_
  refine gc_getE C BX8 176 0 (by decide) rfl fe_176 vf_X8_12 rfl u1 dX8_get_1 ?_
  refine gc_iloadn C 1 1 dX8_get_4 rfl rfl ?_
  refine gc_lsGet C (ci := 11) (k0 := 0) 176 (by decide) (by decide) (by decide) rfl ft_176 rfl (by decide) u1 u2 vj_X8_26 dX8_get_5 (Nat.le_of_ble_eq_true rfl) ?_
  refine gc_cast C BX0 v_i301 (isC_of u3 (by decide)) dX8_get_8 ?_
  refine gc_ret0 ?_
  exact gc_aret (v := some (lG t 176 a0 a1)) C E (kdLe.rf _) dX8_get_11 ⟨_, rfl, (rfl), rfl⟩
def w_X11_requiredEvent (B : Nat × Nat) (a0 : Nat) (a1 : Int32) (a2 : Int32) (a3 : Int32) (t : CS) (Q : Nat → CS → Prop) (X : String → CS → Prop) : Prop := w_X11_requireVoice B a1 t (fun t1 => (kdC t1 a0 = 14) ∧ w_X11_requireBar B a0 a2 t1 (fun t3 => ((fR t3 224 a0) ≠ none) ∧ (kdC t3 (oG (fR t3 224 a0)) = 12) ∧ (d_X9_row (oG (fR t3 224 a0)) a1 a2 t3) ∧ (kdC t3 (v_X9_row (oG (fR t3 224 a0)) a1 a2 t3) = 11) ∧ (d_X8_size (v_X9_row (oG (fR t3 224 a0)) a1 a2 t3) t3) ∧ w_X11_requireIndex B a3 (v_X8_size (v_X9_row (oG (fR t3 224 a0)) a1 a2 t3) t3) t3 (fun t9 => (d_X8_get (v_X9_row (oG (fR t3 224 a0)) a1 a2 t3) a3 t9) ∧ Q (v_X8_get (v_X9_row (oG (fR t3 224 a0)) a1 a2 t3) a3 t9) t9) X) X) X
set_option maxRecDepth 20000 in
set_option maxHeartbeats 2000000 in
theorem c_X11_requiredEvent (l : Launch) (D : va_G) (K : Nat → ClassId) (E0 : Nat) (B : Nat × Nat) (A0 : Nat → Prop) (a0 : Nat) (a1 : Int32) (a2 : Int32) (a3 : Int32) (t : CS) (Q : Nat → CS → Prop) (X : String → CS → Prop) (h : w_X11_requiredEvent B a0 a1 a2 a3 t Q X) : MetC l yX11_requiredEvent cX11_requiredEvent 5 (some (.object RX0)) 8 [.ref a0, .int a1, .int a2, .int a3] (qR Q) X D K E0 B A0 t := by
  unfold w_X11_requiredEvent at h
  refine gc_start (by decide) rfl (Nat.le_of_ble_eq_true rfl) (fun p e s m args below meth c C E => ?_)
  refine gc_iloadn C 1 1 dX11_requiredEvent_0 rfl rfl ?_
  refine gc_callS C (y := yX11_requireVoice) (as := [.int a1]) rfl (by decide) (by decide) (c_X11_requireVoice l D K E0 B A0 a1 t _ X h) hk_X11_requireVoice rfl vl_X11_102 kc_X11_requireVoice dX11_requiredEvent_1 (Nat.le_of_ble_eq_true rfl) (fun _ _ h => h) (qkV (fun t1 h lt1 => ?_))
  refine gc_aloadn C 0 0 dX11_requiredEvent_4 rfl rfl ?_
  refine gc_iloadn C 2 2 dX11_requiredEvent_5 rfl rfl ?_
  obtain ⟨g2, h⟩ := h
  refine gc_callV C BX11 (y := yX11_requireBar) (as := [.int a2]) rfl (by decide) (by decide) (c_X11_requireBar l D K E0 B A0 a0 a2 t1 _ X h) hk_X11_requireBar rfl vl_X11_62 kc_X11_requireBar (isC_of g2 (by decide)) dX11_requiredEvent_6 (Nat.le_of_ble_eq_true rfl) (fun _ _ h => h) (qkV (fun t3 h lt3 => ?_))
  refine gc_aloadn C 0 0 dX11_requiredEvent_9 rfl rfl ?_
  obtain ⟨g4, h⟩ := h
  refine gc_getR C BX11 224 0 (by decide) rfl ft_224 vf_X11_10 rfl (isC_of (kdLe.k lt3 g2 (by decide) (by decide)) (by decide)) (oG (fR t3 224 a0)) (oG_some g4) dX11_requiredEvent_10 ?_
  refine gc_iloadn C 1 1 dX11_requiredEvent_13 rfl rfl ?_
  refine gc_iloadn C 2 2 dX11_requiredEvent_14 rfl rfl ?_
  obtain ⟨g5, h⟩ := h
  obtain ⟨g6, h⟩ := h
  refine gc_callV C BX9 (y := yX9_row) (as := [.int a1, .int a2]) rfl (by decide) (by decide) (c_X9_row l D K E0 B A0 (oG (fR t3 224 a0)) a1 a2 t3 g6) hk_X9_row rfl vl_X11_110 kc_X9_row (isC_of g5 (by decide)) dX11_requiredEvent_15 (Nat.le_of_ble_eq_true rfl) (fun _ _ h => h.elim) (qkRP ?_)
  refine gc_astore C [(4, .ref (v_X9_row (oG (fR t3 224 a0)) a1 a2 t3)), (0, .ref a0), (1, .int a1), (2, .int a2), (3, .int a3)] dX11_requiredEvent_18 (by decide) rfl ?_
  refine gc_iloadn C 4 3 dX11_requiredEvent_20 rfl rfl ?_
  refine gc_aload C 0 dX11_requiredEvent_21 rfl ?_
  obtain ⟨g7, h⟩ := h
  obtain ⟨g8, h⟩ := h
  refine gc_callV C BX8 (y := yX8_size) (as := []) rfl (by decide) (by decide) (c_X8_size l D K E0 B A0 (v_X9_row (oG (fR t3 224 a0)) a1 a2 t3) t3 g8) hk_X8_size rfl vl_X11_114 kc_X8_size (isC_of g7 (by decide)) dX11_requiredEvent_23 (Nat.le_of_ble_eq_true rfl) (fun _ _ h => h.elim) (qkIP ?_)
  refine gc_callS C (y := yX11_requireIndex) (as := [.int a3, .int (v_X8_size (v_X9_row (oG (fR t3 224 a0)) a1 a2 t3) t3)]) rfl (by decide) (by decide) (c_X11_requireIndex l D K E0 B A0 a3 (v_X8_size (v_X9_row (oG (fR t3 224 a0)) a1 a2 t3) t3) t3 _ X h) hk_X11_requireIndex rfl vl_X11_119 kc_X11_requireIndex dX11_requiredEvent_26 (Nat.le_of_ble_eq_true rfl) (fun _ _ h => h) (qkV (fun t9 h lt9 => ?_))
  refine gc_aload C 0 dX11_requiredEvent_29 rfl ?_
  refine gc_iloadn C 4 3 dX11_requiredEvent_31 rfl rfl ?_
  obtain ⟨g10, h⟩ := h
  refine gc_callV C BX8 (y := yX8_get) (as := [.int a3]) rfl (by decide) (by decide) (c_X8_get l D K E0 B A0 (v_X9_row (oG (fR t3 224 a0)) a1 a2 t3) a3 t9 g10) hk_X8_get rfl vl_X11_365 kc_X8_get (isC_of (kdLe.k lt9 g7 (by decide) (by decide)) (by decide)) dX11_requiredEvent_32 (Nat.le_of_ble_eq_true rfl) (fun _ _ h => h.elim) (qkRP ?_)
  refine gc_ret0 ?_
  exact gc_aret (v := some (v_X8_get (v_X9_row (oG (fR t3 224 a0)) a1 a2 t3) a3 t9)) C E (kdLe.tr lt1 (kdLe.tr lt3 lt9)) dX11_requiredEvent_35 ⟨_, rfl, h⟩
def w_X8_takeOut (B : Nat × Nat) (a0 : Nat) (a1 : Int32) (t : CS) (Q : CS → Prop) (X : String → CS → Prop) : Prop := (kdC t a0 = 11) ∧ (lIn t 176 a0 a1) ∧ (kdC t (lG t 176 a0 a1) = 3) ∧ ∀ t4 : CS, t4 = usI t 177 a0 ((fI t 177 a0) - (fI t 48 (lG t 176 a0 a1))) → (lOK t4 176 a0) ∧ (lIn t4 176 a0 a1) ∧ ∀ t7 : CS, t7 = usL t4 176 a0 ((fL t4 176 a0).eraseIdx (Int32.toNatClampNeg a1)) (fC t4 176 a0) (szC t4) (nsC t4) → Q t7
set_option maxRecDepth 20000 in
set_option maxHeartbeats 2000000 in
theorem c_X8_takeOut (l : Launch) (D : va_G) (K : Nat → ClassId) (E0 : Nat) (B : Nat × Nat) (A0 : Nat → Prop) (a0 : Nat) (a1 : Int32) (t : CS) (Q : CS → Prop) (X : String → CS → Prop) (h : w_X8_takeOut B a0 a1 t Q X) : MetC l yX8_takeOut cX8_takeOut 2 none 3 [.ref a0, .int a1] (qV Q) X D K E0 B A0 t := by
  unfold w_X8_takeOut at h
  refine gc_start (by decide) rfl (Nat.le_of_ble_eq_true rfl) (fun p e s m args below meth c C E => ?_)
  refine gc_aloadn C 0 0 dX8_takeOut_0 rfl rfl ?_
  refine gc_dup C dX8_takeOut_1 rfl ?_
  obtain ⟨g1, h⟩ := h
  refine gc_getI C BX8 177 1 (by decide) rfl ft_177 vf_X8_36 rfl (isC_of g1 (by decide)) dX8_takeOut_2 ?_
  refine gc_aloadn C 0 0 dX8_takeOut_5 rfl rfl ?_
  refine gc_getE C BX8 176 0 (by decide) rfl fe_176 vf_X8_12 rfl g1 dX8_takeOut_6 ?_
  refine gc_iloadn C 1 1 dX8_takeOut_9 rfl rfl ?_
  obtain ⟨g2, h⟩ := h
  refine gc_lsGet C (ci := 11) (k0 := 0) 176 (by decide) (by decide) (by decide) rfl ft_176 rfl (by decide) g1 g2 vj_X8_26 dX8_takeOut_10 (Nat.le_of_ble_eq_true rfl) ?_
  obtain ⟨g3, h⟩ := h
  refine gc_cast C BX0 v_i301 (isC_of g3 (by decide)) dX8_takeOut_13 ?_
  refine gc_getI C BX0 48 0 (by decide) rfl ft_48 vf_X8_40 rfl (isC_of g3 (by decide)) dX8_takeOut_16 ?_
  refine gc_isub C dX8_takeOut_19 ?_
  refine gc_putI C BX8 177 1 (by decide) rfl .int ft_177 vf_X8_36 rfl rfl (by decide +kernel) rfl rfl (isC_of g1 (by decide)) dX8_takeOut_20 ?_
  refine gc_nameS (fun t4 et4 => ?_)
  have h := h t4 et4
  have lt4 : kdLe t t4 := kdLe.eq (by rw [et4]; rfl)
  refine gc_aloadn C 0 0 dX8_takeOut_23 rfl rfl ?_
  refine gc_getE C BX8 176 0 (by decide) rfl fe_176 vf_X8_12 rfl (kdLe.k lt4 g1 (by decide) (by decide)) dX8_takeOut_24 ?_
  refine gc_iloadn C 1 1 dX8_takeOut_27 rfl rfl ?_
  obtain ⟨g5, h⟩ := h
  obtain ⟨g6, h⟩ := h
  refine gc_lsRem C (ci := 11) (k0 := 0) 176 (by decide) (by decide) (by decide) rfl ft_176 rfl (by decide) (ce := 3) (rr := (RX0, TX0, 6)) (by decide +kernel) (by decide) (by decide) rfl n_i1735 (kdLe.k lt4 g1 (by decide) (by decide)) g5 g6 vj_X8_41 dX8_takeOut_28 (Nat.le_of_ble_eq_true rfl) ?_
  refine gc_nameS (fun t7 et7 => ?_)
  have h := h t7 et7
  have lt7 : kdLe t4 t7 := kdLe.eq (by rw [et7]; rfl)
  refine gc_pop C dX8_takeOut_31 rfl ?_
  exact gc_vret C E (kdLe.tr lt4 lt7) dX8_takeOut_32 ⟨rfl, h⟩
def v_X5_hasEnd (a0 : Nat) (a1 : Nat) (t : CS) : Int32 := (if ((some (oG (fR t 131 a0))) = (some a1)) ∨ ((some (oG (fR t 132 a0))) = (some a1)) then 1 else 0)
def d_X5_hasEnd (a0 : Nat) (a1 : Nat) (t : CS) : Prop := (kdC t a0 = 8) ∧ ((fR t 131 a0) ≠ none) ∧ ((¬ ((some (oG (fR t 131 a0))) = (some a1))) → (fR t 132 a0) ≠ none)
theorem vb_X5_hasEnd {a0 : Nat} {a1 : Nat} {t : CS} : gb (v_X5_hasEnd a0 a1 t) := by unfold v_X5_hasEnd; split <;> first | exact Or.inr rfl | exact Or.inl rfl
set_option maxRecDepth 20000 in
theorem c_X5_hasEnd (l : Launch) (D : va_G) (K : Nat → ClassId) (E0 : Nat) (B : Nat × Nat) (A0 : Nat → Prop) (a0 : Nat) (a1 : Nat) (t : CS) (h : d_X5_hasEnd a0 a1 t) : MetC l yX5_hasEnd cX5_hasEnd 2 (some .boolean) 0 [.ref a0, .ref a1] (qI (fun r t' => (v_X5_hasEnd a0 a1 t) = r ∧ t = t')) (fun _ _ => False) D K E0 B A0 t := by
  obtain ⟨u1, u2, u3⟩ := h
  refine gc_start (by decide) rfl (Nat.le_of_ble_eq_true rfl) (fun p e s m args below meth c C E => ?_)
  refine gc_aloadn C 0 0 dX5_hasEnd_0 rfl rfl ?_
  refine gc_getR C BX5 131 3 (by decide) rfl ft_131 vf_X5_16 rfl (isC_of u1 (by decide)) (oG (fR t 131 a0)) (oG_some u2) dX5_hasEnd_1 ?_
  refine gc_aloadn C 1 1 dX5_hasEnd_4 rfl rfl ?_
  refine gc_acmp_eq C (x := (some (oG (fR t 131 a0)))) (y := (some a1)) 16 dX5_hasEnd_5 (by decide) (fun c5_1 => ?_) (fun c5_1 => ?_)
  · refine gc_iconst C 1 dX5_hasEnd_16 (by decide) ?_
    refine gc_goto C 21 dX5_hasEnd_17 (by decide) ?_
    exact gc_zret C E (Or.inr rfl) (kdLe.rf _) dX5_hasEnd_21 ⟨_, rfl, (Eq.symm ((if_pos (Or.inl c5_1)).symm)), rfl⟩
  · refine gc_aloadn C 0 0 dX5_hasEnd_8 rfl rfl ?_
    refine gc_getR C BX5 132 4 (by decide) rfl ft_132 vf_X5_23 rfl (isC_of u1 (by decide)) (oG (fR t 132 a0)) (oG_some (u3 c5_1)) dX5_hasEnd_9 ?_
    refine gc_aloadn C 1 1 dX5_hasEnd_12 rfl rfl ?_
    refine gc_acmp_ne C (x := (some (oG (fR t 132 a0)))) (y := (some a1)) 20 dX5_hasEnd_13 (by decide) (fun c13_2 => ?_) (fun c13_2 => ?_)
    · refine gc_iconst C 0 dX5_hasEnd_20 (by decide) ?_
      exact gc_zret C E (Or.inl rfl) (kdLe.rf _) dX5_hasEnd_21 ⟨_, rfl, (Eq.symm ((if_neg (fun q0 => Or.elim q0 c5_1 c13_2)).symm)), rfl⟩
    · refine gc_iconst C 1 dX5_hasEnd_16 (by decide) ?_
      refine gc_goto C 21 dX5_hasEnd_17 (by decide) ?_
      exact gc_zret C E (Or.inr rfl) (kdLe.rf _) dX5_hasEnd_21 ⟨_, rfl, (Eq.symm ((if_pos (Or.inr c13_2)).symm)), rfl⟩
def w_X9_dropPhrasesAt_L2 (a0 : Nat) (a1 : Nat) (Q : CS → Prop) (K2 : (Int32 × CS) → Prop) (z2 : Int32 × CS) : Prop := (kdC z2.2 a0 = 12) ∧ (((nI (fL z2.2 193 a0).length) ≤ z2.1) → Q z2.2) ∧ (¬ ((nI (fL z2.2 193 a0).length) ≤ z2.1) → (lIn z2.2 193 a0 z2.1) ∧ (kdC z2.2 (lG z2.2 193 a0 z2.1) = 8) ∧ (d_X5_hasEnd (lG z2.2 193 a0 z2.1) a1 z2.2) ∧ ∃ J46 : CS → Prop, (∀ t5 : CS, J46 t5 → (K2 ((z2.1 + 1), t5))) ∧ ((((v_X5_hasEnd (lG z2.2 193 a0 z2.1) a1 z2.2) = 0) → J46 z2.2) ∧ (¬ ((v_X5_hasEnd (lG z2.2 193 a0 z2.1) a1 z2.2) = 0) → (lIn z2.2 193 a0 z2.1) ∧ ∀ t7 : CS, t7 = usI z2.2 133 (lG z2.2 193 a0 z2.1) 1 → J46 t7)))
def w_X9_dropPhrasesAt (B : Nat × Nat) (a0 : Nat) (a1 : Nat) (t : CS) (Q : CS → Prop) (X : String → CS → Prop) : Prop := ∃ n, lp (w_X9_dropPhrasesAt_L2 a0 a1 Q) n (0, t)
set_option maxRecDepth 20000 in
set_option maxHeartbeats 2000000 in
theorem c_X9_dropPhrasesAt (l : Launch) (D : va_G) (K : Nat → ClassId) (E0 : Nat) (B : Nat × Nat) (A0 : Nat → Prop) (a0 : Nat) (a1 : Nat) (t : CS) (Q : CS → Prop) (X : String → CS → Prop) (h : w_X9_dropPhrasesAt B a0 a1 t Q X) : MetC l yX9_dropPhrasesAt cX9_dropPhrasesAt 3 none 3 [.ref a0, .ref a1] (qV Q) X D K E0 B A0 t := by
  unfold w_X9_dropPhrasesAt at h
  refine gc_start (by decide) rfl (Nat.le_of_ble_eq_true rfl) (fun p e s m args below meth c C E => ?_)
  refine gc_iconst C 0 dX9_dropPhrasesAt_0 (by decide) ?_
  refine gc_istoren C 2 [(2, .int 0), (0, .ref a0), (1, .ref a1)] dX9_dropPhrasesAt_1 rfl (by decide) rfl ?_
  refine gc_sub [1, 2, 0] rfl ?_
  obtain ⟨n2, h⟩ := h
  have k2 : ∀ (n2 : Nat) (z2 : Int32 × CS), kdLe t z2.2 → lp (w_X9_dropPhrasesAt_L2 a0 a1 Q) n2 z2 → GC p l e (rmC 3 B t) s m args below meth c 3 D K E0 B A0 (gc_Q below D K E0 A0 (qV Q) X args s t (rmC 3 B t)) z2.2 2 [(0, .ref a0), (1, .ref a1), (2, .int z2.1)] [] := by
    intro n2
    induction n2 with
    | zero => intro z2 lz2 h; exact h.elim
    | succ n2 ih2 =>
      intro z2 lz2 h
      have h : w_X9_dropPhrasesAt_L2 a0 a1 Q (lp (w_X9_dropPhrasesAt_L2 a0 a1 Q) n2) z2 := h
      unfold w_X9_dropPhrasesAt_L2 at h
      refine gc_iloadn C 2 2 dX9_dropPhrasesAt_2 rfl rfl ?_
      refine gc_aloadn C 0 0 dX9_dropPhrasesAt_3 rfl rfl ?_
      obtain ⟨g1, h⟩ := h
      refine gc_getE C BX9 193 1 (by decide) rfl fe_193 vf_X9_18 rfl g1 dX9_dropPhrasesAt_4 ?_
      refine gc_lsSize C (ci := 12) (k0 := 1) 193 (by decide) (by decide) (by decide) rfl ft_193 rfl (by decide) g1 vj_X9_38 dX9_dropPhrasesAt_7 (Nat.le_of_ble_eq_true rfl) ?_
      refine gc_icmp_ge C 52 dX9_dropPhrasesAt_10 (by decide) (fun c10_1 => ?_) (fun c10_1 => ?_)
      · have h := h.1 c10_1
        exact gc_vret C E lz2 dX9_dropPhrasesAt_52 ⟨rfl, h⟩
      · have h := h.2 c10_1
        refine gc_aloadn C 0 0 dX9_dropPhrasesAt_13 rfl rfl ?_
        refine gc_getE C BX9 193 1 (by decide) rfl fe_193 vf_X9_18 rfl g1 dX9_dropPhrasesAt_14 ?_
        refine gc_iloadn C 2 2 dX9_dropPhrasesAt_17 rfl rfl ?_
        obtain ⟨g2, h⟩ := h
        refine gc_lsGet C (ci := 12) (k0 := 1) 193 (by decide) (by decide) (by decide) rfl ft_193 rfl (by decide) g1 g2 vj_X9_42 dX9_dropPhrasesAt_18 (Nat.le_of_ble_eq_true rfl) ?_
        obtain ⟨g3, h⟩ := h
        refine gc_cast C BX5 v_i231 (isC_of g3 (by decide)) dX9_dropPhrasesAt_21 ?_
        refine gc_aloadn C 1 1 dX9_dropPhrasesAt_24 rfl rfl ?_
        obtain ⟨g4, h⟩ := h
        refine gc_callV C BX5 (y := yX5_hasEnd) (as := [.ref a1]) rfl (by decide) (by decide) (c_X5_hasEnd l D K E0 B A0 (lG z2.2 193 a0 z2.1) a1 z2.2 g4) hk_X5_hasEnd rfl vl_X9_109 kc_X5_hasEnd (isC_of g3 (by decide)) dX9_dropPhrasesAt_25 (Nat.le_of_ble_eq_true rfl) (fun _ _ h => h.elim) (qkIP ?_)
        obtain ⟨J46, hJ46, h⟩ := h
        have k46 : ∀ t5 : CS, kdLe z2.2 t5 → J46 t5 → GC p l e (rmC 3 B t) s m args below meth c 3 D K E0 B A0 (gc_Q below D K E0 A0 (qV Q) X args s t (rmC 3 B t)) t5 46 [(0, .ref a0), (1, .ref a1), (2, .int z2.1)] [] := by
          intro t5 lt5 h
          have h := hJ46 t5 h
          refine gc_iinc C 2 (z2.1 + 1) [(2, .int (z2.1 + 1)), (0, .ref a0), (1, .ref a1)] dX9_dropPhrasesAt_46 rfl rfl (by decide) rfl ?_
          refine gc_goto C 2 dX9_dropPhrasesAt_49 (by decide) ?_
          refine gc_sub [1, 2, 0] rfl ?_
          have h9 := ih2 ((z2.1 + 1), t5) (kdLe.tr lz2 lt5) h
          exact h9
        refine gc_if_eq C 46 dX9_dropPhrasesAt_28 (by decide) (fun c28_2 => ?_) (fun c28_2 => ?_)
        · have h := h.1 c28_2
          exact k46 z2.2 (kdLe.rf _) h
        · have h := h.2 c28_2
          refine gc_aloadn C 0 0 dX9_dropPhrasesAt_31 rfl rfl ?_
          refine gc_getE C BX9 193 1 (by decide) rfl fe_193 vf_X9_18 rfl g1 dX9_dropPhrasesAt_32 ?_
          refine gc_iloadn C 2 2 dX9_dropPhrasesAt_35 rfl rfl ?_
          obtain ⟨g6, h⟩ := h
          refine gc_lsGet C (ci := 12) (k0 := 1) 193 (by decide) (by decide) (by decide) rfl ft_193 rfl (by decide) g1 g6 vj_X9_42 dX9_dropPhrasesAt_36 (Nat.le_of_ble_eq_true rfl) ?_
          refine gc_cast C BX5 v_i231 (isC_of g3 (by decide)) dX9_dropPhrasesAt_39 ?_
          refine gc_iconst C 1 dX9_dropPhrasesAt_42 (by decide) ?_
          refine gc_putI C BX5 133 5 (by decide) rfl .boolean ft_133 vf_X9_113 rfl rfl (by decide +kernel) (gb_nar (Or.inr rfl)) (gb_fit (Or.inr rfl)) (isC_of g3 (by decide)) dX9_dropPhrasesAt_43 ?_
          refine gc_nameS (fun t7 et7 => ?_)
          have h := h t7 et7
          have lt7 : kdLe z2.2 t7 := kdLe.eq (by rw [et7]; rfl)
          exact k46 t7 lt7 h
  exact k2 n2 (0, t) (kdLe.rf _) h
def w_X11_remove (B : Nat × Nat) (a0 : Nat) (a1 : Int32) (a2 : Int32) (a3 : Int32) (t : CS) (Q : Int32 → CS → Prop) (X : String → CS → Prop) : Prop := (kdC t a0 = 14) ∧ w_X11_requiredEvent B a0 a1 a2 a3 t (fun r2 t2 => ((fR t2 224 a0) ≠ none) ∧ (kdC t2 (oG (fR t2 224 a0)) = 12) ∧ (d_X9_row (oG (fR t2 224 a0)) a1 a2 t2) ∧ (kdC t2 (v_X9_row (oG (fR t2 224 a0)) a1 a2 t2) = 11) ∧ w_X8_takeOut B (v_X9_row (oG (fR t2 224 a0)) a1 a2 t2) a3 t2 (fun t7 => ((fR t7 224 a0) ≠ none) ∧ (kdC t7 (oG (fR t7 224 a0)) = 12) ∧ w_X9_dropPhrasesAt B (oG (fR t7 224 a0)) r2 t7 (fun t10 => ((fR t10 224 a0) ≠ none) ∧ (kdC t10 (oG (fR t10 224 a0)) = 12) ∧ ∀ t13 : CS, t13 = usI t10 199 (oG (fR t10 224 a0)) ((fI t10 199 (oG (fR t10 224 a0))) + 1) → (kdC t13 r2 = 3) ∧ Q (fI t13 48 r2) t13) X) X) X
set_option maxRecDepth 20000 in
set_option maxHeartbeats 2000000 in
theorem c_X11_remove (l : Launch) (D : va_G) (K : Nat → ClassId) (E0 : Nat) (B : Nat × Nat) (A0 : Nat → Prop) (a0 : Nat) (a1 : Int32) (a2 : Int32) (a3 : Int32) (t : CS) (Q : Int32 → CS → Prop) (X : String → CS → Prop) (h : w_X11_remove B a0 a1 a2 a3 t Q X) : MetC l yX11_remove cX11_remove 5 (some .int) 9 [.ref a0, .int a1, .int a2, .int a3] (qI Q) X D K E0 B A0 t := by
  unfold w_X11_remove at h
  refine gc_start (by decide) rfl (Nat.le_of_ble_eq_true rfl) (fun p e s m args below meth c C E => ?_)
  refine gc_aloadn C 0 0 dX11_remove_0 rfl rfl ?_
  refine gc_iloadn C 1 1 dX11_remove_1 rfl rfl ?_
  refine gc_iloadn C 2 2 dX11_remove_2 rfl rfl ?_
  refine gc_iloadn C 3 3 dX11_remove_3 rfl rfl ?_
  obtain ⟨g1, h⟩ := h
  refine gc_callV C BX11 (y := yX11_requiredEvent) (as := [.int a1, .int a2, .int a3]) rfl (by decide) (by decide) (c_X11_requiredEvent l D K E0 B A0 a0 a1 a2 a3 t _ X h) hk_X11_requiredEvent rfl vl_X11_140 kc_X11_requiredEvent (isC_of g1 (by decide)) dX11_remove_4 (Nat.le_of_ble_eq_true rfl) (fun _ _ h => h) (qkR (fun r2 t2 h lt2 => ?_))
  refine gc_astore C [(4, .ref r2), (0, .ref a0), (1, .int a1), (2, .int a2), (3, .int a3)] dX11_remove_7 (by decide) rfl ?_
  refine gc_aloadn C 1 0 dX11_remove_9 rfl rfl ?_
  obtain ⟨g3, h⟩ := h
  refine gc_getR C BX11 224 0 (by decide) rfl ft_224 vf_X11_10 rfl (isC_of (kdLe.k lt2 g1 (by decide) (by decide)) (by decide)) (oG (fR t2 224 a0)) (oG_some g3) dX11_remove_10 ?_
  refine gc_iloadn C 2 1 dX11_remove_13 rfl rfl ?_
  refine gc_iloadn C 3 2 dX11_remove_14 rfl rfl ?_
  obtain ⟨g4, h⟩ := h
  obtain ⟨g5, h⟩ := h
  refine gc_callV C BX9 (y := yX9_row) (as := [.int a1, .int a2]) rfl (by decide) (by decide) (c_X9_row l D K E0 B A0 (oG (fR t2 224 a0)) a1 a2 t2 g5) hk_X9_row rfl vl_X11_110 kc_X9_row (isC_of g4 (by decide)) dX11_remove_15 (Nat.le_of_ble_eq_true rfl) (fun _ _ h => h.elim) (qkRP ?_)
  refine gc_iloadn C 4 3 dX11_remove_18 rfl rfl ?_
  obtain ⟨g6, h⟩ := h
  refine gc_callV C BX8 (y := yX8_takeOut) (as := [.int a3]) rfl (by decide) (by decide) (c_X8_takeOut l D K E0 B A0 (v_X9_row (oG (fR t2 224 a0)) a1 a2 t2) a3 t2 _ X h) hk_X8_takeOut rfl vl_X11_144 kc_X8_takeOut (isC_of g6 (by decide)) dX11_remove_19 (Nat.le_of_ble_eq_true rfl) (fun _ _ h => h) (qkV (fun t7 h lt7 => ?_))
  refine gc_aloadn C 1 0 dX11_remove_22 rfl rfl ?_
  obtain ⟨g8, h⟩ := h
  refine gc_getR C BX11 224 0 (by decide) rfl ft_224 vf_X11_10 rfl (isC_of (kdLe.k (kdLe.tr lt2 lt7) g1 (by decide) (by decide)) (by decide)) (oG (fR t7 224 a0)) (oG_some g8) dX11_remove_23 ?_
  refine gc_aload C 0 dX11_remove_26 rfl ?_
  obtain ⟨g9, h⟩ := h
  refine gc_callV C BX9 (y := yX9_dropPhrasesAt) (as := [.ref r2]) rfl (by decide) (by decide) (c_X9_dropPhrasesAt l D K E0 B A0 (oG (fR t7 224 a0)) r2 t7 _ X h) hk_X9_dropPhrasesAt rfl vl_X11_147 kc_X9_dropPhrasesAt (isC_of g9 (by decide)) dX11_remove_28 (Nat.le_of_ble_eq_true rfl) (fun _ _ h => h) (qkV (fun t10 h lt10 => ?_))
  refine gc_aloadn C 1 0 dX11_remove_31 rfl rfl ?_
  obtain ⟨g11, h⟩ := h
  refine gc_getR C BX11 224 0 (by decide) rfl ft_224 vf_X11_10 rfl (isC_of (kdLe.k (kdLe.tr lt2 (kdLe.tr lt7 lt10)) g1 (by decide) (by decide)) (by decide)) (oG (fR t10 224 a0)) (oG_some g11) dX11_remove_32 ?_
  refine gc_dup C dX11_remove_35 rfl ?_
  obtain ⟨g12, h⟩ := h
  refine gc_getI C BX9 199 7 (by decide) rfl ft_199 vf_X11_58 rfl (isC_of g12 (by decide)) dX11_remove_36 ?_
  refine gc_iconst C 1 dX11_remove_39 (by decide) ?_
  refine gc_iadd C dX11_remove_40 ?_
  refine gc_putI C BX9 199 7 (by decide) rfl .int ft_199 vf_X11_58 rfl rfl (by decide +kernel) rfl rfl (isC_of g12 (by decide)) dX11_remove_41 ?_
  refine gc_nameS (fun t13 et13 => ?_)
  have h := h t13 et13
  have lt13 : kdLe t10 t13 := kdLe.eq (by rw [et13]; rfl)
  refine gc_aload C 0 dX11_remove_44 rfl ?_
  obtain ⟨g14, h⟩ := h
  refine gc_getI C BX0 48 0 (by decide) rfl ft_48 vf_X11_151 rfl (isC_of g14 (by decide)) dX11_remove_46 ?_
  exact gc_iret C E (kdLe.tr lt2 (kdLe.tr lt7 (kdLe.tr lt10 lt13))) dX11_remove_49 ⟨_, rfl, h⟩
def v_X0_isNote (a0 : Nat) (t : CS) : Int32 := (if ¬ ((fI t 50 a0) ≤ 0) then 1 else 0)
def d_X0_isNote (a0 : Nat) (t : CS) : Prop := (kdC t a0 = 3)
theorem vb_X0_isNote {a0 : Nat} {t : CS} : gb (v_X0_isNote a0 t) := by unfold v_X0_isNote; split <;> first | exact Or.inr rfl | exact Or.inl rfl
set_option maxRecDepth 20000 in
theorem c_X0_isNote (l : Launch) (D : va_G) (K : Nat → ClassId) (E0 : Nat) (B : Nat × Nat) (A0 : Nat → Prop) (a0 : Nat) (t : CS) (h : d_X0_isNote a0 t) : MetC l yX0_isNote cX0_isNote 1 (some .boolean) 0 [.ref a0] (qI (fun r t' => (v_X0_isNote a0 t) = r ∧ t = t')) (fun _ _ => False) D K E0 B A0 t := by
  have u1 := h
  refine gc_start (by decide) rfl (Nat.le_of_ble_eq_true rfl) (fun p e s m args below meth c C E => ?_)
  refine gc_aloadn C 0 0 dX0_isNote_0 rfl rfl ?_
  refine gc_getI C BX0 50 2 (by decide) rfl ft_50 vf_X0_9 rfl (isC_of u1 (by decide)) dX0_isNote_1 ?_
  refine gc_if_le C 11 dX0_isNote_4 (by decide) (fun c4_1 => ?_) (fun c4_1 => ?_)
  · refine gc_iconst C 0 dX0_isNote_11 (by decide) ?_
    exact gc_zret C E (Or.inl rfl) (kdLe.rf _) dX0_isNote_12 ⟨_, rfl, (Eq.symm ((if_neg (fun q0 => q0 c4_1)).symm)), rfl⟩
  · refine gc_iconst C 1 dX0_isNote_7 (by decide) ?_
    refine gc_goto C 12 dX0_isNote_8 (by decide) ?_
    exact gc_zret C E (Or.inr rfl) (kdLe.rf _) dX0_isNote_12 ⟨_, rfl, (Eq.symm ((if_pos c4_1).symm)), rfl⟩
def w_X11_setPitch (B : Nat × Nat) (a0 : Nat) (a1 : Int32) (a2 : Int32) (a3 : Int32) (a4 : Int32) (t : CS) (Q : Int32 → CS → Prop) (X : String → CS → Prop) : Prop := w_X11_requireRange B a4 0 127 t (fun t1 => (kdC t1 a0 = 14) ∧ w_X11_requiredEvent B a0 a1 a2 a3 t1 (fun r3 t3 => ((fR t3 224 a0) ≠ none) ∧ (kdC t3 (oG (fR t3 224 a0)) = 12) ∧ (d_X9_canBeWritten (oG (fR t3 224 a0)) a1 a4 t3) ∧ (((v_X9_canBeWritten (oG (fR t3 224 a0)) a1 a4 t3) = 0) → (szC t3 + 1 ≤ B.1 ∧ nsC t3 + 6 ≤ B.2) ∧ ∀ sz ns : Nat, X "java/lang/IllegalStateException" (rsz t3 sz ns)) ∧ (¬ ((v_X9_canBeWritten (oG (fR t3 224 a0)) a1 a4 t3) = 0) → (kdC t3 r3 = 3) ∧ ∀ x9 : Int32, x9 = (fI t3 50 r3) → ∀ t10 : CS, t10 = usI t3 50 r3 a4 → ((¬ ((fI t10 51 r3) = 0)) → d_X0_isNote r3 t10) ∧ ∀ x11 : Int32, x11 = (if (¬ ((fI t10 51 r3) = 0)) ∧ (¬ ((v_X0_isNote r3 t10) = 0)) then 1 else 0) → (gb x11) ∧ ∀ t14 : CS, t14 = usI t10 51 r3 x11 → ((fR t14 224 a0) ≠ none) ∧ (kdC t14 (oG (fR t14 224 a0)) = 12) ∧ ∀ t17 : CS, t17 = usI t14 199 (oG (fR t14 224 a0)) ((fI t14 199 (oG (fR t14 224 a0))) + 1) → Q x9 t17)) X) X
set_option maxRecDepth 20000 in
set_option maxHeartbeats 2000000 in
theorem c_X11_setPitch (l : Launch) (D : va_G) (K : Nat → ClassId) (E0 : Nat) (B : Nat × Nat) (A0 : Nat → Prop) (a0 : Nat) (a1 : Int32) (a2 : Int32) (a3 : Int32) (a4 : Int32) (t : CS) (Q : Int32 → CS → Prop) (X : String → CS → Prop) (h : w_X11_setPitch B a0 a1 a2 a3 a4 t Q X) : MetC l yX11_setPitch cX11_setPitch 7 (some .int) 9 [.ref a0, .int a1, .int a2, .int a3, .int a4] (qI Q) X D K E0 B A0 t := by
  unfold w_X11_setPitch at h
  refine gc_start (by decide) rfl (Nat.le_of_ble_eq_true rfl) (fun p e s m args below meth c C E => ?_)
  refine gc_iload C 4 dX11_setPitch_0 rfl ?_
  refine gc_iconst C 0 dX11_setPitch_2 (by decide) ?_
  refine gc_bipush C 127 dX11_setPitch_3 (by decide) ?_
  refine gc_callS C (y := yX11_requireRange) (as := [.int a4, .int 0, .int 127]) rfl (by decide) (by decide) (c_X11_requireRange l D K E0 B A0 a4 0 127 t _ X h) hk_X11_requireRange rfl vl_X11_88 kc_X11_requireRange dX11_setPitch_5 (Nat.le_of_ble_eq_true rfl) (fun _ _ h => h) (qkV (fun t1 h lt1 => ?_))
  refine gc_aloadn C 0 0 dX11_setPitch_8 rfl rfl ?_
  refine gc_iloadn C 1 1 dX11_setPitch_9 rfl rfl ?_
  refine gc_iloadn C 2 2 dX11_setPitch_10 rfl rfl ?_
  refine gc_iloadn C 3 3 dX11_setPitch_11 rfl rfl ?_
  obtain ⟨g2, h⟩ := h
  refine gc_callV C BX11 (y := yX11_requiredEvent) (as := [.int a1, .int a2, .int a3]) rfl (by decide) (by decide) (c_X11_requiredEvent l D K E0 B A0 a0 a1 a2 a3 t1 _ X h) hk_X11_requiredEvent rfl vl_X11_140 kc_X11_requiredEvent (isC_of g2 (by decide)) dX11_setPitch_12 (Nat.le_of_ble_eq_true rfl) (fun _ _ h => h) (qkR (fun r3 t3 h lt3 => ?_))
  refine gc_astore C [(5, .ref r3), (0, .ref a0), (1, .int a1), (2, .int a2), (3, .int a3), (4, .int a4)] dX11_setPitch_15 (by decide) rfl ?_
  refine gc_aloadn C 1 0 dX11_setPitch_17 rfl rfl ?_
  obtain ⟨g4, h⟩ := h
  refine gc_getR C BX11 224 0 (by decide) rfl ft_224 vf_X11_10 rfl (isC_of (kdLe.k lt3 g2 (by decide) (by decide)) (by decide)) (oG (fR t3 224 a0)) (oG_some g4) dX11_setPitch_18 ?_
  refine gc_iloadn C 2 1 dX11_setPitch_21 rfl rfl ?_
  refine gc_iload C 5 dX11_setPitch_22 rfl ?_
  obtain ⟨g5, h⟩ := h
  obtain ⟨g6, h⟩ := h
  refine gc_callV C BX9 (y := yX9_canBeWritten) (as := [.int a1, .int a4]) rfl (by decide) (by decide) (c_X9_canBeWritten l D K E0 B A0 (oG (fR t3 224 a0)) a1 a4 t3 g6) hk_X9_canBeWritten rfl vl_X11_128 kc_X9_canBeWritten (isC_of g5 (by decide)) dX11_setPitch_24 (Nat.le_of_ble_eq_true rfl) (fun _ _ h => h.elim) (qkIP ?_)
  refine gc_if_ne C 40 dX11_setPitch_27 (by decide) (fun c27_1 => ?_) (fun c27_1 => ?_)
  · have h := h.2 c27_1
    refine gc_aload C 0 dX11_setPitch_40 rfl ?_
    obtain ⟨g8, h⟩ := h
    refine gc_getI C BX0 50 2 (by decide) rfl ft_50 vf_X11_155 rfl (isC_of g8 (by decide)) dX11_setPitch_42 ?_
    refine gc_nameI (fun x9 ex9 => ?_)
    have h := h x9 ex9
    refine gc_istore C [(6, .int x9), (5, .ref r3), (0, .ref a0), (1, .int a1), (2, .int a2), (3, .int a3), (4, .int a4)] dX11_setPitch_45 (by decide) rfl ?_
    refine gc_aload C 1 dX11_setPitch_47 rfl ?_
    refine gc_iload C 6 dX11_setPitch_49 rfl ?_
    refine gc_putI C BX0 50 2 (by decide) rfl .int ft_50 vf_X11_155 rfl rfl (by decide +kernel) rfl rfl (isC_of g8 (by decide)) dX11_setPitch_51 ?_
    refine gc_nameS (fun t10 et10 => ?_)
    have h := h t10 et10
    have lt10 : kdLe t3 t10 := kdLe.eq (by rw [et10]; rfl)
    refine gc_aload C 1 dX11_setPitch_54 rfl ?_
    refine gc_aload C 1 dX11_setPitch_56 rfl ?_
    refine gc_getI C BX0 51 3 (by decide) rfl ft_51 vf_X11_158 rfl (isC_of (kdLe.k lt10 g8 (by decide) (by decide)) (by decide)) dX11_setPitch_58 ?_
    obtain ⟨g12, h⟩ := h
    have k77 : ∀ x11 : Int32, x11 = (if (¬ ((fI t10 51 r3) = 0)) ∧ (¬ ((v_X0_isNote r3 t10) = 0)) then 1 else 0) → GC p l e (rmC 9 B t) s m args below meth c 7 D K E0 B A0 (gc_Q below D K E0 A0 (qI Q) X args s t (rmC 9 B t)) t10 77 [(0, .ref a0), (6, .int x9)] [.int x11, .ref r3] := by
      intro x11 ex11
      have h := h x11 ex11
      obtain ⟨g13, h⟩ := h
      refine gc_putI C BX0 51 3 (by decide) rfl .boolean ft_51 vf_X11_158 rfl rfl (by decide +kernel) (gb_nar g13) (gb_fit g13) (isC_of (kdLe.k lt10 g8 (by decide) (by decide)) (by decide)) dX11_setPitch_77 ?_
      refine gc_nameS (fun t14 et14 => ?_)
      have h := h t14 et14
      have lt14 : kdLe t10 t14 := kdLe.eq (by rw [et14]; rfl)
      refine gc_aloadn C 0 0 dX11_setPitch_80 rfl rfl ?_
      obtain ⟨g15, h⟩ := h
      refine gc_getR C BX11 224 0 (by decide) rfl ft_224 vf_X11_10 rfl (isC_of (kdLe.k (kdLe.tr lt3 (kdLe.tr lt10 lt14)) g2 (by decide) (by decide)) (by decide)) (oG (fR t14 224 a0)) (oG_some g15) dX11_setPitch_81 ?_
      refine gc_dup C dX11_setPitch_84 rfl ?_
      obtain ⟨g16, h⟩ := h
      refine gc_getI C BX9 199 7 (by decide) rfl ft_199 vf_X11_58 rfl (isC_of g16 (by decide)) dX11_setPitch_85 ?_
      refine gc_iconst C 1 dX11_setPitch_88 (by decide) ?_
      refine gc_iadd C dX11_setPitch_89 ?_
      refine gc_putI C BX9 199 7 (by decide) rfl .int ft_199 vf_X11_58 rfl rfl (by decide +kernel) rfl rfl (isC_of g16 (by decide)) dX11_setPitch_90 ?_
      refine gc_nameS (fun t17 et17 => ?_)
      have h := h t17 et17
      have lt17 : kdLe t14 t17 := kdLe.eq (by rw [et17]; rfl)
      refine gc_iload C 1 dX11_setPitch_93 rfl ?_
      exact gc_iret C E (kdLe.tr lt1 (kdLe.tr lt3 (kdLe.tr lt10 (kdLe.tr lt14 lt17)))) dX11_setPitch_95 ⟨_, rfl, h⟩
    refine gc_if_eq C 76 dX11_setPitch_61 (by decide) (fun c61_2 => ?_) (fun c61_2 => ?_)
    · refine gc_iconst C 0 dX11_setPitch_76 (by decide) ?_
      refine gc_sub [2, 0] rfl ?_
      exact k77 _ ((if_neg (fun q0 => q0.1 c61_2)).symm)
    · refine gc_aload C 1 dX11_setPitch_64 rfl ?_
      refine gc_callV C BX0 (y := yX0_isNote) (as := []) rfl (by decide) (by decide) (c_X0_isNote l D K E0 B A0 r3 t10 (g12 c61_2)) hk_X0_isNote rfl vl_X11_162 kc_X0_isNote (isC_of (kdLe.k lt10 g8 (by decide) (by decide)) (by decide)) dX11_setPitch_66 (Nat.le_of_ble_eq_true rfl) (fun _ _ h => h.elim) (qkIP ?_)
      refine gc_if_eq C 76 dX11_setPitch_69 (by decide) (fun c69_3 => ?_) (fun c69_3 => ?_)
      · refine gc_iconst C 0 dX11_setPitch_76 (by decide) ?_
        refine gc_sub [2, 0] rfl ?_
        exact k77 _ ((if_neg (fun q0 => (fun q1 => q1 c69_3) q0.2)).symm)
      · refine gc_iconst C 1 dX11_setPitch_72 (by decide) ?_
        refine gc_goto C 77 dX11_setPitch_73 (by decide) ?_
        refine gc_sub [2, 0] rfl ?_
        exact k77 _ ((if_pos ⟨c61_2, c69_3⟩).symm)
  · have h := h.1 c27_1
    obtain ⟨g7, h⟩ := h
    exact gc_throwS C (text := "the pitch cannot be written") rfl (by decide) (Nat.le_of_ble_eq_true rfl) ex_X11_37_41 (by decide +kernel) dX11_setPitch_30 dX11_setPitch_33 dX11_setPitch_34 dX11_setPitch_36 dX11_setPitch_39 g7 h
def w_X11_setTie (B : Nat × Nat) (a0 : Nat) (a1 : Int32) (a2 : Int32) (a3 : Int32) (a4 : Int32) (t : CS) (Q : Int32 → CS → Prop) (X : String → CS → Prop) : Prop := (kdC t a0 = 14) ∧ w_X11_requiredEvent B a0 a1 a2 a3 t (fun r2 t2 => (kdC t2 r2 = 3) ∧ (d_X0_isNote r2 t2) ∧ (((v_X0_isNote r2 t2) = 0) → (szC t2 + 1 ≤ B.1 ∧ nsC t2 + 6 ≤ B.2) ∧ ∀ sz ns : Nat, X "java/lang/IllegalStateException" (rsz t2 sz ns)) ∧ (¬ ((v_X0_isNote r2 t2) = 0) → ∀ x6 : Int32, x6 = (fI t2 51 r2) → (gb a4) ∧ ∀ t8 : CS, t8 = usI t2 51 r2 a4 → ((fR t8 224 a0) ≠ none) ∧ (kdC t8 (oG (fR t8 224 a0)) = 12) ∧ ∀ t11 : CS, t11 = usI t8 199 (oG (fR t8 224 a0)) ((fI t8 199 (oG (fR t8 224 a0))) + 1) → (gb x6) ∧ Q x6 t11)) X
set_option maxRecDepth 20000 in
set_option maxHeartbeats 2000000 in
theorem c_X11_setTie (l : Launch) (D : va_G) (K : Nat → ClassId) (E0 : Nat) (B : Nat × Nat) (A0 : Nat → Prop) (a0 : Nat) (a1 : Int32) (a2 : Int32) (a3 : Int32) (a4 : Int32) (t : CS) (Q : Int32 → CS → Prop) (X : String → CS → Prop) (h : w_X11_setTie B a0 a1 a2 a3 a4 t Q X) : MetC l yX11_setTie cX11_setTie 7 (some .boolean) 9 [.ref a0, .int a1, .int a2, .int a3, .int a4] (qI Q) X D K E0 B A0 t := by
  unfold w_X11_setTie at h
  refine gc_start (by decide) rfl (Nat.le_of_ble_eq_true rfl) (fun p e s m args below meth c C E => ?_)
  refine gc_aloadn C 0 0 dX11_setTie_0 rfl rfl ?_
  refine gc_iloadn C 1 1 dX11_setTie_1 rfl rfl ?_
  refine gc_iloadn C 2 2 dX11_setTie_2 rfl rfl ?_
  refine gc_iloadn C 3 3 dX11_setTie_3 rfl rfl ?_
  obtain ⟨g1, h⟩ := h
  refine gc_callV C BX11 (y := yX11_requiredEvent) (as := [.int a1, .int a2, .int a3]) rfl (by decide) (by decide) (c_X11_requiredEvent l D K E0 B A0 a0 a1 a2 a3 t _ X h) hk_X11_requiredEvent rfl vl_X11_140 kc_X11_requiredEvent (isC_of g1 (by decide)) dX11_setTie_4 (Nat.le_of_ble_eq_true rfl) (fun _ _ h => h) (qkR (fun r2 t2 h lt2 => ?_))
  refine gc_astore C [(5, .ref r2), (0, .ref a0), (1, .int a1), (2, .int a2), (3, .int a3), (4, .int a4)] dX11_setTie_7 (by decide) rfl ?_
  refine gc_aload C 0 dX11_setTie_9 rfl ?_
  obtain ⟨g3, h⟩ := h
  obtain ⟨g4, h⟩ := h
  refine gc_callV C BX0 (y := yX0_isNote) (as := []) rfl (by decide) (by decide) (c_X0_isNote l D K E0 B A0 r2 t2 g4) hk_X0_isNote rfl vl_X11_162 kc_X0_isNote (isC_of g3 (by decide)) dX11_setTie_11 (Nat.le_of_ble_eq_true rfl) (fun _ _ h => h.elim) (qkIP ?_)
  refine gc_if_ne C 27 dX11_setTie_14 (by decide) (fun c14_1 => ?_) (fun c14_1 => ?_)
  · have h := h.2 c14_1
    refine gc_aload C 0 dX11_setTie_27 rfl ?_
    refine gc_getI C BX0 51 3 (by decide) rfl ft_51 vf_X11_158 rfl (isC_of g3 (by decide)) dX11_setTie_29 ?_
    refine gc_nameI (fun x6 ex6 => ?_)
    have h := h x6 ex6
    refine gc_istore C [(6, .int x6), (5, .ref r2), (0, .ref a0), (1, .int a1), (2, .int a2), (3, .int a3), (4, .int a4)] dX11_setTie_32 (by decide) rfl ?_
    refine gc_aload C 1 dX11_setTie_34 rfl ?_
    refine gc_iload C 6 dX11_setTie_36 rfl ?_
    obtain ⟨g7, h⟩ := h
    refine gc_putI C BX0 51 3 (by decide) rfl .boolean ft_51 vf_X11_158 rfl rfl (by decide +kernel) (gb_nar g7) (gb_fit g7) (isC_of g3 (by decide)) dX11_setTie_38 ?_
    refine gc_nameS (fun t8 et8 => ?_)
    have h := h t8 et8
    have lt8 : kdLe t2 t8 := kdLe.eq (by rw [et8]; rfl)
    refine gc_aloadn C 2 0 dX11_setTie_41 rfl rfl ?_
    obtain ⟨g9, h⟩ := h
    refine gc_getR C BX11 224 0 (by decide) rfl ft_224 vf_X11_10 rfl (isC_of (kdLe.k (kdLe.tr lt2 lt8) g1 (by decide) (by decide)) (by decide)) (oG (fR t8 224 a0)) (oG_some g9) dX11_setTie_42 ?_
    refine gc_dup C dX11_setTie_45 rfl ?_
    obtain ⟨g10, h⟩ := h
    refine gc_getI C BX9 199 7 (by decide) rfl ft_199 vf_X11_58 rfl (isC_of g10 (by decide)) dX11_setTie_46 ?_
    refine gc_iconst C 1 dX11_setTie_49 (by decide) ?_
    refine gc_iadd C dX11_setTie_50 ?_
    refine gc_putI C BX9 199 7 (by decide) rfl .int ft_199 vf_X11_58 rfl rfl (by decide +kernel) rfl rfl (isC_of g10 (by decide)) dX11_setTie_51 ?_
    refine gc_nameS (fun t11 et11 => ?_)
    have h := h t11 et11
    have lt11 : kdLe t8 t11 := kdLe.eq (by rw [et11]; rfl)
    refine gc_iload C 0 dX11_setTie_54 rfl ?_
    obtain ⟨g12, h⟩ := h
    exact gc_zret C E g12 (kdLe.tr lt2 (kdLe.tr lt8 lt11)) dX11_setTie_56 ⟨_, rfl, h⟩
  · have h := h.1 c14_1
    obtain ⟨g5, h⟩ := h
    exact gc_throwS C (text := "a rest cannot be tied") rfl (by decide) (Nat.le_of_ble_eq_true rfl) ex_X11_37_41 (by decide +kernel) dX11_setTie_17 dX11_setTie_20 dX11_setTie_21 dX11_setTie_23 dX11_setTie_26 g5 h
def w_X11_setMark (B : Nat × Nat) (a0 : Nat) (a1 : Int32) (a2 : Int32) (a3 : Int32) (a4 : Int32) (t : CS) (Q : Int32 → CS → Prop) (X : String → CS → Prop) : Prop := w_X11_requireRange B a4 (-1) 5 t (fun t1 => (kdC t1 a0 = 14) ∧ w_X11_requiredEvent B a0 a1 a2 a3 t1 (fun r3 t3 => (kdC t3 r3 = 3) ∧ ∀ x5 : Int32, x5 = (fI t3 52 r3) → ∀ t6 : CS, t6 = usI t3 52 r3 a4 → ((fR t6 224 a0) ≠ none) ∧ (kdC t6 (oG (fR t6 224 a0)) = 12) ∧ ∀ t9 : CS, t9 = usI t6 199 (oG (fR t6 224 a0)) ((fI t6 199 (oG (fR t6 224 a0))) + 1) → Q x5 t9) X) X
set_option maxRecDepth 20000 in
set_option maxHeartbeats 2000000 in
theorem c_X11_setMark (l : Launch) (D : va_G) (K : Nat → ClassId) (E0 : Nat) (B : Nat × Nat) (A0 : Nat → Prop) (a0 : Nat) (a1 : Int32) (a2 : Int32) (a3 : Int32) (a4 : Int32) (t : CS) (Q : Int32 → CS → Prop) (X : String → CS → Prop) (h : w_X11_setMark B a0 a1 a2 a3 a4 t Q X) : MetC l yX11_setMark cX11_setMark 7 (some .int) 9 [.ref a0, .int a1, .int a2, .int a3, .int a4] (qI Q) X D K E0 B A0 t := by
  unfold w_X11_setMark at h
  refine gc_start (by decide) rfl (Nat.le_of_ble_eq_true rfl) (fun p e s m args below meth c C E => ?_)
  refine gc_iload C 4 dX11_setMark_0 rfl ?_
  refine gc_iconst C (-1) dX11_setMark_2 (by decide) ?_
  refine gc_iconst C 5 dX11_setMark_3 (by decide) ?_
  refine gc_callS C (y := yX11_requireRange) (as := [.int a4, .int (-1), .int 5]) rfl (by decide) (by decide) (c_X11_requireRange l D K E0 B A0 a4 (-1) 5 t _ X h) hk_X11_requireRange rfl vl_X11_88 kc_X11_requireRange dX11_setMark_4 (Nat.le_of_ble_eq_true rfl) (fun _ _ h => h) (qkV (fun t1 h lt1 => ?_))
  refine gc_aloadn C 0 0 dX11_setMark_7 rfl rfl ?_
  refine gc_iloadn C 1 1 dX11_setMark_8 rfl rfl ?_
  refine gc_iloadn C 2 2 dX11_setMark_9 rfl rfl ?_
  refine gc_iloadn C 3 3 dX11_setMark_10 rfl rfl ?_
  obtain ⟨g2, h⟩ := h
  refine gc_callV C BX11 (y := yX11_requiredEvent) (as := [.int a1, .int a2, .int a3]) rfl (by decide) (by decide) (c_X11_requiredEvent l D K E0 B A0 a0 a1 a2 a3 t1 _ X h) hk_X11_requiredEvent rfl vl_X11_140 kc_X11_requiredEvent (isC_of g2 (by decide)) dX11_setMark_11 (Nat.le_of_ble_eq_true rfl) (fun _ _ h => h) (qkR (fun r3 t3 h lt3 => ?_))
  refine gc_astore C [(5, .ref r3), (0, .ref a0), (1, .int a1), (2, .int a2), (3, .int a3), (4, .int a4)] dX11_setMark_14 (by decide) rfl ?_
  refine gc_aload C 0 dX11_setMark_16 rfl ?_
  obtain ⟨g4, h⟩ := h
  refine gc_getI C BX0 52 4 (by decide) rfl ft_52 vf_X11_168 rfl (isC_of g4 (by decide)) dX11_setMark_18 ?_
  refine gc_nameI (fun x5 ex5 => ?_)
  have h := h x5 ex5
  refine gc_istore C [(6, .int x5), (5, .ref r3), (0, .ref a0), (1, .int a1), (2, .int a2), (3, .int a3), (4, .int a4)] dX11_setMark_21 (by decide) rfl ?_
  refine gc_aload C 1 dX11_setMark_23 rfl ?_
  refine gc_iload C 6 dX11_setMark_25 rfl ?_
  refine gc_putI C BX0 52 4 (by decide) rfl .int ft_52 vf_X11_168 rfl rfl (by decide +kernel) rfl rfl (isC_of g4 (by decide)) dX11_setMark_27 ?_
  refine gc_nameS (fun t6 et6 => ?_)
  have h := h t6 et6
  have lt6 : kdLe t3 t6 := kdLe.eq (by rw [et6]; rfl)
  refine gc_aloadn C 2 0 dX11_setMark_30 rfl rfl ?_
  obtain ⟨g7, h⟩ := h
  refine gc_getR C BX11 224 0 (by decide) rfl ft_224 vf_X11_10 rfl (isC_of (kdLe.k (kdLe.tr lt3 lt6) g2 (by decide) (by decide)) (by decide)) (oG (fR t6 224 a0)) (oG_some g7) dX11_setMark_31 ?_
  refine gc_dup C dX11_setMark_34 rfl ?_
  obtain ⟨g8, h⟩ := h
  refine gc_getI C BX9 199 7 (by decide) rfl ft_199 vf_X11_58 rfl (isC_of g8 (by decide)) dX11_setMark_35 ?_
  refine gc_iconst C 1 dX11_setMark_38 (by decide) ?_
  refine gc_iadd C dX11_setMark_39 ?_
  refine gc_putI C BX9 199 7 (by decide) rfl .int ft_199 vf_X11_58 rfl rfl (by decide +kernel) rfl rfl (isC_of g8 (by decide)) dX11_setMark_40 ?_
  refine gc_nameS (fun t9 et9 => ?_)
  have h := h t9 et9
  have lt9 : kdLe t6 t9 := kdLe.eq (by rw [et9]; rfl)
  refine gc_iload C 0 dX11_setMark_43 rfl ?_
  exact gc_iret C E (kdLe.tr lt1 (kdLe.tr lt3 (kdLe.tr lt6 lt9))) dX11_setMark_45 ⟨_, rfl, h⟩
def w_X9_canBeTransposed_L24 (a0 : Nat) (a1 : Int32) (a2 : Int32) (t : CS) (Q : Int32 → CS → Prop) (K2 : Int32 → Prop) (z2 : Int32) (K24 : Int32 → Prop) (z24 : Int32) : Prop := (kdC t (v_X9_row a0 a1 z2 t) = 11) ∧ (d_X8_size (v_X9_row a0 a1 z2 t) t) ∧ (((v_X8_size (v_X9_row a0 a1 z2 t) t) ≤ z24) → K2 (z2 + 1)) ∧ (¬ ((v_X8_size (v_X9_row a0 a1 z2 t) t) ≤ z24) → (d_X8_get (v_X9_row a0 a1 z2 t) z24 t) ∧ (kdC t (v_X8_get (v_X9_row a0 a1 z2 t) z24 t) = 3) ∧ (((v_X9_isPitchOrRest (fI t 50 (v_X8_get (v_X9_row a0 a1 z2 t) z24 t)) a2) = 0) → Q 0 t) ∧ (¬ ((v_X9_isPitchOrRest (fI t 50 (v_X8_get (v_X9_row a0 a1 z2 t) z24 t)) a2) = 0) → K24 (z24 + 1)))
def w_X9_canBeTransposed_L2 (a0 : Nat) (a1 : Int32) (a2 : Int32) (t : CS) (Q : Int32 → CS → Prop) (K2 : Int32 → Prop) (z2 : Int32) : Prop := (kdC t a0 = 12) ∧ (((nI (fL t 192 a0).length) ≤ z2) → Q 1 t) ∧ (¬ ((nI (fL t 192 a0).length) ≤ z2) → (d_X9_row a0 a1 z2 t) ∧ ∃ n, lp (w_X9_canBeTransposed_L24 a0 a1 a2 t Q K2 z2) n 0)
def w_X9_canBeTransposed (B : Nat × Nat) (a0 : Nat) (a1 : Int32) (a2 : Int32) (t : CS) (Q : Int32 → CS → Prop) (X : String → CS → Prop) : Prop := ∃ n, lp (w_X9_canBeTransposed_L2 a0 a1 a2 t Q) n 0
set_option maxRecDepth 20000 in
set_option maxHeartbeats 2000000 in
theorem c_X9_canBeTransposed (l : Launch) (D : va_G) (K : Nat → ClassId) (E0 : Nat) (B : Nat × Nat) (A0 : Nat → Prop) (a0 : Nat) (a1 : Int32) (a2 : Int32) (t : CS) (Q : Int32 → CS → Prop) (X : String → CS → Prop) (h : w_X9_canBeTransposed B a0 a1 a2 t Q X) : MetC l yX9_canBeTransposed cX9_canBeTransposed 6 (some .boolean) 4 [.ref a0, .int a1, .int a2] (qI Q) X D K E0 B A0 t := by
  unfold w_X9_canBeTransposed at h
  refine gc_start (by decide) rfl (Nat.le_of_ble_eq_true rfl) (fun p e s m args below meth c C E => ?_)
  refine gc_iconst C 0 dX9_canBeTransposed_0 (by decide) ?_
  refine gc_istoren C 3 [(3, .int 0), (0, .ref a0), (1, .int a1), (2, .int a2)] dX9_canBeTransposed_1 rfl (by decide) rfl ?_
  refine gc_sub [1, 2, 3, 0] rfl ?_
  obtain ⟨n2, h⟩ := h
  have k2 : ∀ (n2 : Nat) (z2 : Int32), lp (w_X9_canBeTransposed_L2 a0 a1 a2 t Q) n2 z2 → GC p l e (rmC 4 B t) s m args below meth c 6 D K E0 B A0 (gc_Q below D K E0 A0 (qI Q) X args s t (rmC 4 B t)) t 2 [(0, .ref a0), (1, .int a1), (2, .int a2), (3, .int z2)] [] := by
    intro n2
    induction n2 with
    | zero => intro z2 h; exact h.elim
    | succ n2 ih2 =>
      intro z2 h
      have h : w_X9_canBeTransposed_L2 a0 a1 a2 t Q (lp (w_X9_canBeTransposed_L2 a0 a1 a2 t Q) n2) z2 := h
      unfold w_X9_canBeTransposed_L2 at h
      refine gc_iloadn C 3 3 dX9_canBeTransposed_2 rfl rfl ?_
      refine gc_aloadn C 0 0 dX9_canBeTransposed_3 rfl rfl ?_
      obtain ⟨g1, h⟩ := h
      refine gc_getE C BX9 192 0 (by decide) rfl fe_192 vf_X9_12 rfl g1 dX9_canBeTransposed_4 ?_
      refine gc_lsSize C (ci := 12) (k0 := 0) 192 (by decide) (by decide) (by decide) rfl ft_192 rfl (by decide) g1 vj_X9_38 dX9_canBeTransposed_7 (Nat.le_of_ble_eq_true rfl) ?_
      refine gc_icmp_ge C 65 dX9_canBeTransposed_10 (by decide) (fun c10_1 => ?_) (fun c10_1 => ?_)
      · have h := h.1 c10_1
        refine gc_iconst C 1 dX9_canBeTransposed_65 (by decide) ?_
        exact gc_zret C E (Or.inr rfl) (kdLe.rf _) dX9_canBeTransposed_66 ⟨_, rfl, h⟩
      · have h := h.2 c10_1
        refine gc_aloadn C 0 0 dX9_canBeTransposed_13 rfl rfl ?_
        refine gc_iloadn C 1 1 dX9_canBeTransposed_14 rfl rfl ?_
        refine gc_iloadn C 3 3 dX9_canBeTransposed_15 rfl rfl ?_
        obtain ⟨g2, h⟩ := h
        refine gc_callV C BX9 (y := yX9_row) (as := [.int a1, .int z2]) rfl (by decide) (by decide) (c_X9_row l D K E0 B A0 a0 a1 z2 t g2) hk_X9_row rfl vl_X9_66 kc_X9_row (isC_of g1 (by decide)) dX9_canBeTransposed_16 (Nat.le_of_ble_eq_true rfl) (fun _ _ h => h.elim) (qkRP ?_)
        refine gc_astore C [(4, .ref (v_X9_row a0 a1 z2 t)), (0, .ref a0), (1, .int a1), (2, .int a2), (3, .int z2)] dX9_canBeTransposed_19 (by decide) rfl ?_
        refine gc_iconst C 0 dX9_canBeTransposed_21 (by decide) ?_
        refine gc_istore C [(5, .int 0), (4, .ref (v_X9_row a0 a1 z2 t)), (0, .ref a0), (1, .int a1), (2, .int a2), (3, .int z2)] dX9_canBeTransposed_22 (by decide) rfl ?_
        refine gc_sub [2, 3, 4, 5, 1, 0] rfl ?_
        obtain ⟨n24, h⟩ := h
        have k24 : ∀ (n24 : Nat) (z24 : Int32), lp (w_X9_canBeTransposed_L24 a0 a1 a2 t Q (lp (w_X9_canBeTransposed_L2 a0 a1 a2 t Q) n2) z2) n24 z24 → GC p l e (rmC 4 B t) s m args below meth c 6 D K E0 B A0 (gc_Q below D K E0 A0 (qI Q) X args s t (rmC 4 B t)) t 24 [(0, .ref a0), (1, .int a1), (2, .int a2), (3, .int z2), (4, .ref (v_X9_row a0 a1 z2 t)), (5, .int z24)] [] := by
          intro n24
          induction n24 with
          | zero => intro z24 h; exact h.elim
          | succ n24 ih24 =>
            intro z24 h
            have h : w_X9_canBeTransposed_L24 a0 a1 a2 t Q (lp (w_X9_canBeTransposed_L2 a0 a1 a2 t Q) n2) z2 (lp (w_X9_canBeTransposed_L24 a0 a1 a2 t Q (lp (w_X9_canBeTransposed_L2 a0 a1 a2 t Q) n2) z2) n24) z24 := h
            unfold w_X9_canBeTransposed_L24 at h
            refine gc_iload C 5 dX9_canBeTransposed_24 rfl ?_
            refine gc_aload C 4 dX9_canBeTransposed_26 rfl ?_
            obtain ⟨g3, h⟩ := h
            obtain ⟨g4, h⟩ := h
            refine gc_callV C BX8 (y := yX8_size) (as := []) rfl (by decide) (by decide) (c_X8_size l D K E0 B A0 (v_X9_row a0 a1 z2 t) t g4) hk_X8_size rfl vl_X9_92 kc_X8_size (isC_of g3 (by decide)) dX9_canBeTransposed_28 (Nat.le_of_ble_eq_true rfl) (fun _ _ h => h.elim) (qkIP ?_)
            refine gc_icmp_ge C 59 dX9_canBeTransposed_31 (by decide) (fun c31_2 => ?_) (fun c31_2 => ?_)
            · have h := h.1 c31_2
              refine gc_iinc C 3 (z2 + 1) [(3, .int (z2 + 1)), (0, .ref a0), (1, .int a1), (2, .int a2), (4, .ref (v_X9_row a0 a1 z2 t)), (5, .int z24)] dX9_canBeTransposed_59 rfl rfl (by decide) rfl ?_
              refine gc_goto C 2 dX9_canBeTransposed_62 (by decide) ?_
              refine gc_sub [1, 2, 3, 0] rfl ?_
              have h9 := ih2 (z2 + 1) h
              exact h9
            · have h := h.2 c31_2
              refine gc_aload C 4 dX9_canBeTransposed_34 rfl ?_
              refine gc_iload C 5 dX9_canBeTransposed_36 rfl ?_
              obtain ⟨g5, h⟩ := h
              refine gc_callV C BX8 (y := yX8_get) (as := [.int z24]) rfl (by decide) (by decide) (c_X8_get l D K E0 B A0 (v_X9_row a0 a1 z2 t) z24 t g5) hk_X8_get rfl vl_X9_93 kc_X8_get (isC_of g3 (by decide)) dX9_canBeTransposed_38 (Nat.le_of_ble_eq_true rfl) (fun _ _ h => h.elim) (qkRP ?_)
              obtain ⟨g6, h⟩ := h
              refine gc_getI C BX0 50 2 (by decide) rfl ft_50 vf_X9_96 rfl (isC_of g6 (by decide)) dX9_canBeTransposed_41 ?_
              refine gc_iloadn C 2 2 dX9_canBeTransposed_44 rfl rfl ?_
              refine gc_callS C (y := yX9_isPitchOrRest) (as := [.int (fI t 50 (v_X8_get (v_X9_row a0 a1 z2 t) z24 t)), .int a2]) rfl (by decide) (by decide) (c_X9_isPitchOrRest l D K E0 B A0 (fI t 50 (v_X8_get (v_X9_row a0 a1 z2 t) z24 t)) a2 t) hk_X9_isPitchOrRest rfl vl_X9_89 kc_X9_isPitchOrRest dX9_canBeTransposed_45 (Nat.le_of_ble_eq_true rfl) (fun _ _ h => h.elim) (qkIP ?_)
              refine gc_if_ne C 53 dX9_canBeTransposed_48 (by decide) (fun c48_3 => ?_) (fun c48_3 => ?_)
              · have h := h.2 c48_3
                refine gc_iinc C 5 (z24 + 1) [(5, .int (z24 + 1)), (0, .ref a0), (1, .int a1), (2, .int a2), (3, .int z2), (4, .ref (v_X9_row a0 a1 z2 t))] dX9_canBeTransposed_53 rfl rfl (by decide) rfl ?_
                refine gc_goto C 24 dX9_canBeTransposed_56 (by decide) ?_
                refine gc_sub [1, 2, 3, 4, 5, 0] rfl ?_
                have h9 := ih24 (z24 + 1) h
                exact h9
              · have h := h.1 c48_3
                refine gc_iconst C 0 dX9_canBeTransposed_51 (by decide) ?_
                exact gc_zret C E (Or.inl rfl) (kdLe.rf _) dX9_canBeTransposed_52 ⟨_, rfl, h⟩
        exact k24 n24 0 h
  exact k2 n2 0 h
def w_X11_transpose (B : Nat × Nat) (a0 : Nat) (a1 : Int32) (a2 : Int32) (t : CS) (Q : Int32 → CS → Prop) (X : String → CS → Prop) : Prop := w_X11_requireVoice B a1 t (fun t1 => w_X11_requireRange B a2 (-12) 12 t1 (fun t2 => (kdC t2 a0 = 14) ∧ ((fR t2 224 a0) ≠ none) ∧ (kdC t2 (oG (fR t2 224 a0)) = 12) ∧ w_X9_canBeTransposed B (oG (fR t2 224 a0)) a1 a2 t2 (fun r6 t6 => ((r6 = 0) → (szC t6 + 1 ≤ B.1 ∧ nsC t6 + 6 ≤ B.2) ∧ ∀ sz ns : Nat, X "java/lang/IllegalStateException" (rsz t6 sz ns)) ∧ (¬ (r6 = 0) → ((fR t6 224 a0) ≠ none) ∧ (kdC t6 (oG (fR t6 224 a0)) = 12) ∧ (vp_in a1 (cLN 195)) ∧ ∀ x11 : Int32, x11 = (fA t6 195 (oG (fR t6 224 a0)) (Int32.toNatClampNeg a1)) → (vp_in a1 (cLN 195)) ∧ ∀ t13 : CS, t13 = usA t6 195 (oG (fR t6 224 a0)) a1 a2 → ((fR t13 224 a0) ≠ none) ∧ (kdC t13 (oG (fR t13 224 a0)) = 12) ∧ ∀ t16 : CS, t16 = usI t13 199 (oG (fR t13 224 a0)) ((fI t13 199 (oG (fR t13 224 a0))) + 1) → Q x11 t16)) X) X) X
set_option maxRecDepth 20000 in
set_option maxHeartbeats 2000000 in
theorem c_X11_transpose (l : Launch) (D : va_G) (K : Nat → ClassId) (E0 : Nat) (B : Nat × Nat) (A0 : Nat → Prop) (a0 : Nat) (a1 : Int32) (a2 : Int32) (t : CS) (Q : Int32 → CS → Prop) (X : String → CS → Prop) (h : w_X11_transpose B a0 a1 a2 t Q X) : MetC l yX11_transpose cX11_transpose 4 (some .int) 8 [.ref a0, .int a1, .int a2] (qI Q) X D K E0 B A0 t := by
  unfold w_X11_transpose at h
  refine gc_start (by decide) rfl (Nat.le_of_ble_eq_true rfl) (fun p e s m args below meth c C E => ?_)
  refine gc_iloadn C 1 1 dX11_transpose_0 rfl rfl ?_
  refine gc_callS C (y := yX11_requireVoice) (as := [.int a1]) rfl (by decide) (by decide) (c_X11_requireVoice l D K E0 B A0 a1 t _ X h) hk_X11_requireVoice rfl vl_X11_102 kc_X11_requireVoice dX11_transpose_1 (Nat.le_of_ble_eq_true rfl) (fun _ _ h => h) (qkV (fun t1 h lt1 => ?_))
  refine gc_iloadn C 2 2 dX11_transpose_4 rfl rfl ?_
  refine gc_bipush C (-12) dX11_transpose_5 (by decide) ?_
  refine gc_bipush C 12 dX11_transpose_7 (by decide) ?_
  refine gc_callS C (y := yX11_requireRange) (as := [.int a2, .int (-12), .int 12]) rfl (by decide) (by decide) (c_X11_requireRange l D K E0 B A0 a2 (-12) 12 t1 _ X h) hk_X11_requireRange rfl vl_X11_88 kc_X11_requireRange dX11_transpose_9 (Nat.le_of_ble_eq_true rfl) (fun _ _ h => h) (qkV (fun t2 h lt2 => ?_))
  refine gc_aloadn C 0 0 dX11_transpose_12 rfl rfl ?_
  obtain ⟨g3, h⟩ := h
  obtain ⟨g4, h⟩ := h
  refine gc_getR C BX11 224 0 (by decide) rfl ft_224 vf_X11_10 rfl (isC_of g3 (by decide)) (oG (fR t2 224 a0)) (oG_some g4) dX11_transpose_13 ?_
  refine gc_iloadn C 1 1 dX11_transpose_16 rfl rfl ?_
  refine gc_iloadn C 2 2 dX11_transpose_17 rfl rfl ?_
  obtain ⟨g5, h⟩ := h
  refine gc_callV C BX9 (y := yX9_canBeTransposed) (as := [.int a1, .int a2]) rfl (by decide) (by decide) (c_X9_canBeTransposed l D K E0 B A0 (oG (fR t2 224 a0)) a1 a2 t2 _ X h) hk_X9_canBeTransposed rfl vl_X11_171 kc_X9_canBeTransposed (isC_of g5 (by decide)) dX11_transpose_18 (Nat.le_of_ble_eq_true rfl) (fun _ _ h => h) (qkI (fun r6 t6 h lt6 => ?_))
  refine gc_if_ne C 34 dX11_transpose_21 (by decide) (fun c21_1 => ?_) (fun c21_1 => ?_)
  · have h := h.2 c21_1
    refine gc_aloadn C 0 0 dX11_transpose_34 rfl rfl ?_
    obtain ⟨g8, h⟩ := h
    refine gc_getR C BX11 224 0 (by decide) rfl ft_224 vf_X11_10 rfl (isC_of (kdLe.k lt6 g3 (by decide) (by decide)) (by decide)) (oG (fR t6 224 a0)) (oG_some g8) dX11_transpose_35 ?_
    obtain ⟨g9, h⟩ := h
    refine gc_getE C BX9 195 3 (by decide) rfl fe_195 vf_X11_176 rfl g9 dX11_transpose_38 ?_
    refine gc_iloadn C 1 1 dX11_transpose_41 rfl rfl ?_
    obtain ⟨g10, h⟩ := h
    refine gc_iald C (ci := 12) (k0 := 3) 195 (by decide) (by decide) (by decide) rfl ft_195 (by decide) g9 g10 dX11_transpose_42 ?_
    refine gc_nameI (fun x11 ex11 => ?_)
    have h := h x11 ex11
    refine gc_istoren C 3 [(3, .int x11), (0, .ref a0), (1, .int a1), (2, .int a2)] dX11_transpose_43 rfl (by decide) rfl ?_
    refine gc_aloadn C 1 0 dX11_transpose_44 rfl rfl ?_
    refine gc_getR C BX11 224 0 (by decide) rfl ft_224 vf_X11_10 rfl (isC_of (kdLe.k lt6 g3 (by decide) (by decide)) (by decide)) (oG (fR t6 224 a0)) (oG_some g8) dX11_transpose_45 ?_
    refine gc_getE C BX9 195 3 (by decide) rfl fe_195 vf_X11_176 rfl g9 dX11_transpose_48 ?_
    refine gc_iloadn C 2 1 dX11_transpose_51 rfl rfl ?_
    refine gc_iloadn C 3 2 dX11_transpose_52 rfl rfl ?_
    obtain ⟨g12, h⟩ := h
    refine gc_iast C (ci := 12) (k0 := 3) 195 (by decide) (by decide) (by decide) rfl ft_195 (by decide) g9 g12 dX11_transpose_53 ?_
    refine gc_nameS (fun t13 et13 => ?_)
    have h := h t13 et13
    have lt13 : kdLe t6 t13 := kdLe.eq (by rw [et13]; rfl)
    refine gc_aloadn C 1 0 dX11_transpose_54 rfl rfl ?_
    obtain ⟨g14, h⟩ := h
    refine gc_getR C BX11 224 0 (by decide) rfl ft_224 vf_X11_10 rfl (isC_of (kdLe.k (kdLe.tr lt6 lt13) g3 (by decide) (by decide)) (by decide)) (oG (fR t13 224 a0)) (oG_some g14) dX11_transpose_55 ?_
    refine gc_dup C dX11_transpose_58 rfl ?_
    obtain ⟨g15, h⟩ := h
    refine gc_getI C BX9 199 7 (by decide) rfl ft_199 vf_X11_58 rfl (isC_of g15 (by decide)) dX11_transpose_59 ?_
    refine gc_iconst C 1 dX11_transpose_62 (by decide) ?_
    refine gc_iadd C dX11_transpose_63 ?_
    refine gc_putI C BX9 199 7 (by decide) rfl .int ft_199 vf_X11_58 rfl rfl (by decide +kernel) rfl rfl (isC_of g15 (by decide)) dX11_transpose_64 ?_
    refine gc_nameS (fun t16 et16 => ?_)
    have h := h t16 et16
    have lt16 : kdLe t13 t16 := kdLe.eq (by rw [et16]; rfl)
    refine gc_iloadn C 0 3 dX11_transpose_67 rfl rfl ?_
    exact gc_iret C E (kdLe.tr lt1 (kdLe.tr lt2 (kdLe.tr lt6 (kdLe.tr lt13 lt16)))) dX11_transpose_68 ⟨_, rfl, h⟩
  · have h := h.1 c21_1
    obtain ⟨g7, h⟩ := h
    exact gc_throwS C (text := "a pitch could not be written") rfl (by decide) (Nat.le_of_ble_eq_true rfl) ex_X11_37_41 (by decide +kernel) dX11_transpose_24 dX11_transpose_27 dX11_transpose_28 dX11_transpose_30 dX11_transpose_33 g7 h
def w_X11_events (B : Nat × Nat) (a0 : Nat) (a1 : Int32) (a2 : Int32) (t : CS) (Q : Int32 → CS → Prop) (X : String → CS → Prop) : Prop := w_X11_requireVoice B a1 t (fun t1 => (kdC t1 a0 = 14) ∧ w_X11_requireBar B a0 a2 t1 (fun t3 => ((fR t3 224 a0) ≠ none) ∧ (kdC t3 (oG (fR t3 224 a0)) = 12) ∧ (d_X9_row (oG (fR t3 224 a0)) a1 a2 t3) ∧ (kdC t3 (v_X9_row (oG (fR t3 224 a0)) a1 a2 t3) = 11) ∧ (d_X8_size (v_X9_row (oG (fR t3 224 a0)) a1 a2 t3) t3) ∧ Q (v_X8_size (v_X9_row (oG (fR t3 224 a0)) a1 a2 t3) t3) t3) X) X
set_option maxRecDepth 20000 in
set_option maxHeartbeats 2000000 in
theorem c_X11_events (l : Launch) (D : va_G) (K : Nat → ClassId) (E0 : Nat) (B : Nat × Nat) (A0 : Nat → Prop) (a0 : Nat) (a1 : Int32) (a2 : Int32) (t : CS) (Q : Int32 → CS → Prop) (X : String → CS → Prop) (h : w_X11_events B a0 a1 a2 t Q X) : MetC l yX11_events cX11_events 3 (some .int) 8 [.ref a0, .int a1, .int a2] (qI Q) X D K E0 B A0 t := by
  unfold w_X11_events at h
  refine gc_start (by decide) rfl (Nat.le_of_ble_eq_true rfl) (fun p e s m args below meth c C E => ?_)
  refine gc_iloadn C 1 1 dX11_events_0 rfl rfl ?_
  refine gc_callS C (y := yX11_requireVoice) (as := [.int a1]) rfl (by decide) (by decide) (c_X11_requireVoice l D K E0 B A0 a1 t _ X h) hk_X11_requireVoice rfl vl_X11_102 kc_X11_requireVoice dX11_events_1 (Nat.le_of_ble_eq_true rfl) (fun _ _ h => h) (qkV (fun t1 h lt1 => ?_))
  refine gc_aloadn C 0 0 dX11_events_4 rfl rfl ?_
  refine gc_iloadn C 2 2 dX11_events_5 rfl rfl ?_
  obtain ⟨g2, h⟩ := h
  refine gc_callV C BX11 (y := yX11_requireBar) (as := [.int a2]) rfl (by decide) (by decide) (c_X11_requireBar l D K E0 B A0 a0 a2 t1 _ X h) hk_X11_requireBar rfl vl_X11_62 kc_X11_requireBar (isC_of g2 (by decide)) dX11_events_6 (Nat.le_of_ble_eq_true rfl) (fun _ _ h => h) (qkV (fun t3 h lt3 => ?_))
  refine gc_aloadn C 0 0 dX11_events_9 rfl rfl ?_
  obtain ⟨g4, h⟩ := h
  refine gc_getR C BX11 224 0 (by decide) rfl ft_224 vf_X11_10 rfl (isC_of (kdLe.k lt3 g2 (by decide) (by decide)) (by decide)) (oG (fR t3 224 a0)) (oG_some g4) dX11_events_10 ?_
  refine gc_iloadn C 1 1 dX11_events_13 rfl rfl ?_
  refine gc_iloadn C 2 2 dX11_events_14 rfl rfl ?_
  obtain ⟨g5, h⟩ := h
  obtain ⟨g6, h⟩ := h
  refine gc_callV C BX9 (y := yX9_row) (as := [.int a1, .int a2]) rfl (by decide) (by decide) (c_X9_row l D K E0 B A0 (oG (fR t3 224 a0)) a1 a2 t3 g6) hk_X9_row rfl vl_X11_110 kc_X9_row (isC_of g5 (by decide)) dX11_events_15 (Nat.le_of_ble_eq_true rfl) (fun _ _ h => h.elim) (qkRP ?_)
  obtain ⟨g7, h⟩ := h
  obtain ⟨g8, h⟩ := h
  refine gc_callV C BX8 (y := yX8_size) (as := []) rfl (by decide) (by decide) (c_X8_size l D K E0 B A0 (v_X9_row (oG (fR t3 224 a0)) a1 a2 t3) t3 g8) hk_X8_size rfl vl_X11_114 kc_X8_size (isC_of g7 (by decide)) dX11_events_18 (Nat.le_of_ble_eq_true rfl) (fun _ _ h => h.elim) (qkIP ?_)
  exact gc_iret C E (kdLe.tr lt1 lt3) dX11_events_21 ⟨_, rfl, h⟩
