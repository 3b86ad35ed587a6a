/-! THE CLASS, METHOD BY METHOD (8) -/
def w_X3_layPages_L36 (B : Nat × Nat) (a0 : Nat) (a2 : Int32) (Q : CS → Prop) (X : String → CS → Prop) (x1 : Int32) (K36 : (Int32 × CS) → Prop) (z36 : Int32 × CS) : Prop := ((z36.1 < 0) → w_X3_takeLeastPages B a0 x1 z36.2 (fun t8 => Q t8) X) ∧ (¬ (z36.1 < 0) → w_X3_weighPagesFrom B a0 z36.1 0 1 x1 a2 z36.2 (fun t9 => w_X3_weighPagesFrom B a0 z36.1 1 1 x1 a2 t9 (fun t10 => w_X3_weighPagesFrom B a0 z36.1 0 0 x1 a2 t10 (fun t11 => w_X3_weighPagesFrom B a0 z36.1 1 0 x1 a2 t11 (fun t12 => K36 ((z36.1 + (-1)), t12)) X) X) X) X)
def w_X3_layPages (B : Nat × Nat) (a0 : Nat) (a1 : Int32) (a2 : Int32) (t : CS) (Q : CS → Prop) (X : String → CS → Prop) : Prop := ∀ x1 : Int32, x1 = (mMin a1 24) → (kdC t a0 = 6) ∧ (vp_in (v_X3_state x1 0 0) (cLN 105)) ∧ ∀ t4 : CS, t4 = usJ t a0 (v_X3_state x1 0 0) 0 → (vp_in (v_X3_state x1 1 0) (cLN 105)) ∧ ∀ t6 : CS, t6 = usJ t4 a0 (v_X3_state x1 1 0) 0 → ∀ x7 : Int32, x7 = (x1 - 1) → ∃ n, lp (w_X3_layPages_L36 B a0 a2 Q X x1) n (x7, t6)
set_option maxRecDepth 20000 in
set_option maxHeartbeats 2000000 in
theorem c_X3_layPages (l : Launch) (D : va_G) (K : Nat → ClassId) (E0 : Nat) (B : Nat × Nat) (A0 : Nat → Prop) (a0 : Nat) (a1 : Int32) (a2 : Int32) (t : CS) (Q : CS → Prop) (X : String → CS → Prop) (h : w_X3_layPages B a0 a1 a2 t Q X) : MetC l yX3_layPages cX3_layPages 5 none 2 [.ref a0, .int a1, .int a2] (qV Q) X D K E0 B A0 t := by
  unfold w_X3_layPages at h
  refine gc_start (by decide) rfl (Nat.le_of_ble_eq_true rfl) (fun p e s m args below meth c C E => ?_)
  refine gc_iloadn C 1 1 dX3_layPages_0 rfl rfl ?_
  refine gc_bipush C 24 dX3_layPages_1 (by decide) ?_
  refine gc_min C rfl (by decide) vm_X3_41 (Nat.le_of_ble_eq_true rfl) dX3_layPages_3 ?_
  refine gc_nameI (fun x1 ex1 => ?_)
  have h := h x1 ex1
  refine gc_istoren C 3 [(3, .int x1), (0, .ref a0), (1, .int a1), (2, .int a2)] dX3_layPages_6 rfl (by decide) rfl ?_
  refine gc_aloadn C 1 0 dX3_layPages_7 rfl rfl ?_
  obtain ⟨g2, h⟩ := h
  refine gc_getE C BX3 105 9 (by decide) rfl fe_105 vf_X3_33 rfl g2 dX3_layPages_8 ?_
  refine gc_iloadn C 0 3 dX3_layPages_11 rfl rfl ?_
  refine gc_iconst C 0 dX3_layPages_12 (by decide) ?_
  refine gc_iconst C 0 dX3_layPages_13 (by decide) ?_
  refine gc_callS C (y := yX3_state) (as := [.int x1, .int 0, .int 0]) rfl (by decide) (by decide) (c_X3_state l D K E0 B A0 x1 0 0 t) hk_X3_state rfl vl_X3_47 kc_X3_state dX3_layPages_14 (Nat.le_of_ble_eq_true rfl) (fun _ _ h => h.elim) (qkIP ?_)
  refine gc_lconst C 0 dX3_layPages_17 (by decide) ?_
  obtain ⟨g3, h⟩ := h
  refine gc_last C (ci := 6) (k0 := 9) 105 (by decide) (by decide) (by decide) rfl one_J ft_105 (by decide) g2 g3 dX3_layPages_18 ?_
  refine gc_nameS (fun t4 et4 => ?_)
  have h := h t4 et4
  have lt4 : kdLe t t4 := kdLe.eq (by rw [et4]; rfl)
  refine gc_aloadn C 1 0 dX3_layPages_19 rfl rfl ?_
  refine gc_getE C BX3 105 9 (by decide) rfl fe_105 vf_X3_33 rfl (kdLe.k lt4 g2 (by decide) (by decide)) dX3_layPages_20 ?_
  refine gc_iloadn C 0 3 dX3_layPages_23 rfl rfl ?_
  refine gc_iconst C 1 dX3_layPages_24 (by decide) ?_
  refine gc_iconst C 0 dX3_layPages_25 (by decide) ?_
  refine gc_callS C (y := yX3_state) (as := [.int x1, .int 1, .int 0]) rfl (by decide) (by decide) (c_X3_state l D K E0 B A0 x1 1 0 t4) hk_X3_state rfl vl_X3_47 kc_X3_state dX3_layPages_26 (Nat.le_of_ble_eq_true rfl) (fun _ _ h => h.elim) (qkIP ?_)
  refine gc_lconst C 0 dX3_layPages_29 (by decide) ?_
  obtain ⟨g5, h⟩ := h
  refine gc_last C (ci := 6) (k0 := 9) 105 (by decide) (by decide) (by decide) rfl one_J ft_105 (by decide) (kdLe.k lt4 g2 (by decide) (by decide)) g5 dX3_layPages_30 ?_
  refine gc_nameS (fun t6 et6 => ?_)
  have h := h t6 et6
  have lt6 : kdLe t4 t6 := kdLe.eq (by rw [et6]; rfl)
  refine gc_iloadn C 0 3 dX3_layPages_31 rfl rfl ?_
  refine gc_iconst C 1 dX3_layPages_32 (by decide) ?_
  refine gc_isub C dX3_layPages_33 ?_
  refine gc_nameI (fun x7 ex7 => ?_)
  have h := h x7 ex7
  refine gc_istore C [(4, .int x7), (3, .int x1), (0, .ref a0), (1, .int a1), (2, .int a2)] dX3_layPages_34 (by decide) rfl ?_
  refine gc_sub [2, 4, 1, 0] rfl ?_
  obtain ⟨n36, h⟩ := h
  have k36 : ∀ (n36 : Nat) (z36 : Int32 × CS), kdLe t6 z36.2 → lp (w_X3_layPages_L36 B a0 a2 Q X x1) n36 z36 → GC p l e (rmC 2 B t) s m args below meth c 5 D K E0 B A0 (gc_Q below D K E0 A0 (qV Q) X args s t (rmC 2 B t)) z36.2 36 [(0, .ref a0), (2, .int a2), (3, .int x1), (4, .int z36.1)] [] := by
    intro n36
    induction n36 with
    | zero => intro z36 lz36 h; exact h.elim
    | succ n36 ih36 =>
      intro z36 lz36 h
      have h : w_X3_layPages_L36 B a0 a2 Q X x1 (lp (w_X3_layPages_L36 B a0 a2 Q X x1) n36) z36 := h
      unfold w_X3_layPages_L36 at h
      refine gc_iload C 3 dX3_layPages_36 rfl ?_
      refine gc_if_lt C 87 dX3_layPages_38 (by decide) (fun c38_1 => ?_) (fun c38_1 => ?_)
      · have h := h.1 c38_1
        refine gc_aloadn C 0 0 dX3_layPages_87 rfl rfl ?_
        refine gc_iloadn C 2 3 dX3_layPages_88 rfl rfl ?_
        refine gc_callV C BX3 (y := yX3_takeLeastPages) (as := [.int x1]) rfl (by decide) (by decide) (c_X3_takeLeastPages l D K E0 B A0 a0 x1 z36.2 _ X h) hk_X3_takeLeastPages rfl vl_X3_55 kc_X3_takeLeastPages (isC_of (kdLe.k (kdLe.tr lt4 (kdLe.tr lt6 lz36)) g2 (by decide) (by decide)) (by decide)) dX3_layPages_89 (Nat.le_of_ble_eq_true rfl) (fun _ _ h => h) (qkV (fun t8 h lt8 => ?_))
        exact gc_vret C E (kdLe.tr lt4 (kdLe.tr lt6 (kdLe.tr lz36 lt8))) dX3_layPages_92 ⟨rfl, h⟩
      · have h := h.2 c38_1
        refine gc_aloadn C 0 0 dX3_layPages_41 rfl rfl ?_
        refine gc_iload C 3 dX3_layPages_42 rfl ?_
        refine gc_iconst C 0 dX3_layPages_44 (by decide) ?_
        refine gc_iconst C 1 dX3_layPages_45 (by decide) ?_
        refine gc_iloadn C 2 3 dX3_layPages_46 rfl rfl ?_
        refine gc_iloadn C 1 2 dX3_layPages_47 rfl rfl ?_
        refine gc_callV C BX3 (y := yX3_weighPagesFrom) (as := [.int z36.1, .int 0, .int 1, .int x1, .int a2]) rfl (by decide) (by decide) (c_X3_weighPagesFrom l D K E0 B A0 a0 z36.1 0 1 x1 a2 z36.2 _ X h) hk_X3_weighPagesFrom rfl vl_X3_51 kc_X3_weighPagesFrom (isC_of (kdLe.k (kdLe.tr lt4 (kdLe.tr lt6 lz36)) g2 (by decide) (by decide)) (by decide)) dX3_layPages_48 (Nat.le_of_ble_eq_true rfl) (fun _ _ h => h) (qkV (fun t9 h lt9 => ?_))
        refine gc_aloadn C 0 0 dX3_layPages_51 rfl rfl ?_
        refine gc_iload C 3 dX3_layPages_52 rfl ?_
        refine gc_iconst C 1 dX3_layPages_54 (by decide) ?_
        refine gc_iconst C 1 dX3_layPages_55 (by decide) ?_
        refine gc_iloadn C 2 3 dX3_layPages_56 rfl rfl ?_
        refine gc_iloadn C 1 2 dX3_layPages_57 rfl rfl ?_
        refine gc_callV C BX3 (y := yX3_weighPagesFrom) (as := [.int z36.1, .int 1, .int 1, .int x1, .int a2]) rfl (by decide) (by decide) (c_X3_weighPagesFrom l D K E0 B A0 a0 z36.1 1 1 x1 a2 t9 _ X h) hk_X3_weighPagesFrom rfl vl_X3_51 kc_X3_weighPagesFrom (isC_of (kdLe.k (kdLe.tr lt4 (kdLe.tr lt6 (kdLe.tr lz36 lt9))) g2 (by decide) (by decide)) (by decide)) dX3_layPages_58 (Nat.le_of_ble_eq_true rfl) (fun _ _ h => h) (qkV (fun t10 h lt10 => ?_))
        refine gc_aloadn C 0 0 dX3_layPages_61 rfl rfl ?_
        refine gc_iload C 3 dX3_layPages_62 rfl ?_
        refine gc_iconst C 0 dX3_layPages_64 (by decide) ?_
        refine gc_iconst C 0 dX3_layPages_65 (by decide) ?_
        refine gc_iloadn C 2 3 dX3_layPages_66 rfl rfl ?_
        refine gc_iloadn C 1 2 dX3_layPages_67 rfl rfl ?_
        refine gc_callV C BX3 (y := yX3_weighPagesFrom) (as := [.int z36.1, .int 0, .int 0, .int x1, .int a2]) rfl (by decide) (by decide) (c_X3_weighPagesFrom l D K E0 B A0 a0 z36.1 0 0 x1 a2 t10 _ X h) hk_X3_weighPagesFrom rfl vl_X3_51 kc_X3_weighPagesFrom (isC_of (kdLe.k (kdLe.tr lt4 (kdLe.tr lt6 (kdLe.tr lz36 (kdLe.tr lt9 lt10)))) g2 (by decide) (by decide)) (by decide)) dX3_layPages_68 (Nat.le_of_ble_eq_true rfl) (fun _ _ h => h) (qkV (fun t11 h lt11 => ?_))
        refine gc_aloadn C 0 0 dX3_layPages_71 rfl rfl ?_
        refine gc_iload C 3 dX3_layPages_72 rfl ?_
        refine gc_iconst C 1 dX3_layPages_74 (by decide) ?_
        refine gc_iconst C 0 dX3_layPages_75 (by decide) ?_
        refine gc_iloadn C 2 3 dX3_layPages_76 rfl rfl ?_
        refine gc_iloadn C 1 2 dX3_layPages_77 rfl rfl ?_
        refine gc_callV C BX3 (y := yX3_weighPagesFrom) (as := [.int z36.1, .int 1, .int 0, .int x1, .int a2]) rfl (by decide) (by decide) (c_X3_weighPagesFrom l D K E0 B A0 a0 z36.1 1 0 x1 a2 t11 _ X h) hk_X3_weighPagesFrom rfl vl_X3_51 kc_X3_weighPagesFrom (isC_of (kdLe.k (kdLe.tr lt4 (kdLe.tr lt6 (kdLe.tr lz36 (kdLe.tr lt9 (kdLe.tr lt10 lt11))))) g2 (by decide) (by decide)) (by decide)) dX3_layPages_78 (Nat.le_of_ble_eq_true rfl) (fun _ _ h => h) (qkV (fun t12 h lt12 => ?_))
        refine gc_iinc C 3 (z36.1 + (-1)) [(4, .int (z36.1 + (-1))), (0, .ref a0), (2, .int a2), (3, .int x1)] dX3_layPages_81 rfl rfl (by decide) rfl ?_
        refine gc_goto C 36 dX3_layPages_84 (by decide) ?_
        refine gc_sub [1, 2, 3, 0] rfl ?_
        have h9 := ih36 ((z36.1 + (-1)), t12) (kdLe.tr lz36 (kdLe.tr lt9 (kdLe.tr lt10 (kdLe.tr lt11 lt12)))) h
        exact h9
  exact k36 n36 (x7, t6) (kdLe.rf _) h
def w_X11_drawnPart (B : Nat × Nat) (a0 : Nat) (a1 : Int32) (t : CS) (Q : Nat → CS → Prop) (X : String → CS → Prop) : Prop := w_X11_requireVoice B a1 t (fun t1 => (kdC t1 a0 = 14) ∧ ((fR t1 224 a0) ≠ none) ∧ (kdC t1 (oG (fR t1 224 a0)) = 12) ∧ w_X9_canBeDrawn B (oG (fR t1 224 a0)) a1 t1 (fun r5 t5 => ((r5 = 0) → (szC t5 + 1 ≤ B.1 ∧ nsC t5 + 6 ≤ B.2) ∧ ∀ sz ns : Nat, X "java/lang/IllegalStateException" (rsz t5 sz ns)) ∧ (¬ (r5 = 0) → (vp_in a1 (cLN 226)) ∧ ∃ J49 : CS → Prop, (∀ t8 : CS, J49 t8 → ((vp_in a1 (cLN 226)) ∧ ((fQ t8 226 a0 (Int32.toNatClampNeg a1)) ≠ none) ∧ (kdC t8 (oG (fQ t8 226 a0 (Int32.toNatClampNeg a1))) = 7) ∧ ((fR t8 224 a0) ≠ none) ∧ (kdC t8 (oG (fR t8 224 a0)) = 12) ∧ ∃ J155 : CS → Prop, (∀ t14 : CS, J155 t14 → (Q (oG (fQ t8 226 a0 (Int32.toNatClampNeg a1))) t14)) ∧ ((((fI t8 121 (oG (fQ t8 226 a0 (Int32.toNatClampNeg a1)))) = (fI t8 199 (oG (fR t8 224 a0)))) → J155 t8) ∧ (¬ ((fI t8 121 (oG (fQ t8 226 a0 (Int32.toNatClampNeg a1)))) = (fI t8 199 (oG (fR t8 224 a0)))) → ∀ t15 : CS, t15 = usI t8 121 (oG (fQ t8 226 a0 (Int32.toNatClampNeg a1))) (fI t8 199 (oG (fR t8 224 a0))) → ((fR t15 225 a0) ≠ none) ∧ ((fR t15 224 a0) ≠ none) ∧ (kdC t15 (oG (fR t15 225 a0)) = 9) ∧ w_X6_renew B (oG (fR t15 225 a0)) (oG (fR t15 224 a0)) t15 (fun t19 => ((fR t19 224 a0) ≠ none) ∧ w_X4_layItems B (oG (fQ t8 226 a0 (Int32.toNatClampNeg a1))) (oG (fR t19 224 a0)) t19 (fun t21 => ((fR t21 119 (oG (fQ t8 226 a0 (Int32.toNatClampNeg a1)))) ≠ none) ∧ ((fR t21 224 a0) ≠ none) ∧ (kdC t21 (oG (fR t21 224 a0)) = 12) ∧ (kdC t21 (oG (fR t21 119 (oG (fQ t8 226 a0 (Int32.toNatClampNeg a1))))) = 4) ∧ w_X1_breakItems B (oG (fR t21 119 (oG (fQ t8 226 a0 (Int32.toNatClampNeg a1))))) (oG (fQ t8 226 a0 (Int32.toNatClampNeg a1))) (fI t21 118 (oG (fQ t8 226 a0 (Int32.toNatClampNeg a1)))) (fI t21 196 (oG (fR t21 224 a0))) t21 (fun t26 => ((fR t26 224 a0) ≠ none) ∧ ((fR t26 225 a0) ≠ none) ∧ w_X4_timeBreaks B (oG (fQ t8 226 a0 (Int32.toNatClampNeg a1))) (oG (fR t26 224 a0)) (oG (fR t26 225 a0)) t26 (fun t29 => ((fR t29 120 (oG (fQ t8 226 a0 (Int32.toNatClampNeg a1)))) ≠ none) ∧ ((fR t29 119 (oG (fQ t8 226 a0 (Int32.toNatClampNeg a1)))) ≠ none) ∧ (kdC t29 (oG (fR t29 119 (oG (fQ t8 226 a0 (Int32.toNatClampNeg a1))))) = 4) ∧ ((fR t29 224 a0) ≠ none) ∧ (kdC t29 (oG (fR t29 224 a0)) = 12) ∧ (kdC t29 (oG (fR t29 120 (oG (fQ t8 226 a0 (Int32.toNatClampNeg a1))))) = 6) ∧ w_X3_layPages B (oG (fR t29 120 (oG (fQ t8 226 a0 (Int32.toNatClampNeg a1))))) (fI t29 65 (oG (fR t29 119 (oG (fQ t8 226 a0 (Int32.toNatClampNeg a1)))))) (fI t29 197 (oG (fR t29 224 a0))) t29 (fun t36 => J155 t36) X) X) X) X) X)))) ∧ ((((fQ t5 226 a0 (Int32.toNatClampNeg a1)) = none) → (szC t5 + 1 ≤ B.1 ∧ nsC t5 + cNF 7 ≤ B.2) ∧ ∀ _ : kdC t5 (szC t5) = 0, ∀ t39 : CS, t39 = newO t5 7 → w_X4_init B (szC t5) a1 t39 (fun t40 => (kdC t40 (szC t5) = 7) ∧ (vp_in a1 (cLN 226)) ∧ ∀ t43 : CS, t43 = usQ t40 226 a0 a1 (some (szC t5)) → J49 t43) X) ∧ (¬ ((fQ t5 226 a0 (Int32.toNatClampNeg a1)) = none) → J49 t5)))) X) X
set_option maxRecDepth 20000 in
set_option maxHeartbeats 2000000 in
theorem c_X11_drawnPart (l : Launch) (D : va_G) (K : Nat → ClassId) (E0 : Nat) (B : Nat × Nat) (A0 : Nat → Prop) (a0 : Nat) (a1 : Int32) (t : CS) (Q : Nat → CS → Prop) (X : String → CS → Prop) (h : w_X11_drawnPart B a0 a1 t Q X) : MetC l yX11_drawnPart cX11_drawnPart 3 (some (.object RX4)) 11 [.ref a0, .int a1] (qR Q) X D K E0 B A0 t := by
  unfold w_X11_drawnPart at h
  refine gc_start (by decide) rfl (Nat.le_of_ble_eq_true rfl) (fun p e s m args below meth c C E => ?_)
  refine gc_iloadn C 1 1 dX11_drawnPart_0 rfl rfl ?_
  refine gc_callS C (y := yX11_requireVoice) (as := [.int a1]) rfl (by decide) (by decide) (c_X11_requireVoice l D K E0 B A0 a1 t _ X h) hk_X11_requireVoice rfl vl_X11_102 kc_X11_requireVoice dX11_drawnPart_1 (Nat.le_of_ble_eq_true rfl) (fun _ _ h => h) (qkV (fun t1 h lt1 => ?_))
  refine gc_aloadn C 0 0 dX11_drawnPart_4 rfl rfl ?_
  obtain ⟨g2, h⟩ := h
  obtain ⟨g3, h⟩ := h
  refine gc_getR C BX11 224 0 (by decide) rfl ft_224 vf_X11_10 rfl (isC_of g2 (by decide)) (oG (fR t1 224 a0)) (oG_some g3) dX11_drawnPart_5 ?_
  refine gc_iloadn C 1 1 dX11_drawnPart_8 rfl rfl ?_
  obtain ⟨g4, h⟩ := h
  refine gc_callV C BX9 (y := yX9_canBeDrawn) (as := [.int a1]) rfl (by decide) (by decide) (c_X9_canBeDrawn l D K E0 B A0 (oG (fR t1 224 a0)) a1 t1 _ X h) hk_X9_canBeDrawn rfl vl_X11_375 kc_X9_canBeDrawn (isC_of g4 (by decide)) dX11_drawnPart_9 (Nat.le_of_ble_eq_true rfl) (fun _ _ h => h) (qkI (fun r5 t5 h lt5 => ?_))
  refine gc_if_ne C 26 dX11_drawnPart_12 (by decide) (fun c12_1 => ?_) (fun c12_1 => ?_)
  · have h := h.2 c12_1
    refine gc_aloadn C 0 0 dX11_drawnPart_26 rfl rfl ?_
    refine gc_getE C BX11 226 2 (by decide) rfl fe_226 vf_X11_25 rfl (kdLe.k lt5 g2 (by decide) (by decide)) dX11_drawnPart_27 ?_
    refine gc_iloadn C 1 1 dX11_drawnPart_30 rfl rfl ?_
    obtain ⟨g7, h⟩ := h
    refine gc_qald C (ci := 14) (k0 := 2) 226 (by decide) (by decide) (by decide) rfl (CQ := RX4) 3 rfl ft_226 (by decide) (kdLe.k lt5 g2 (by decide) (by decide)) g7 dX11_drawnPart_31 ?_
    obtain ⟨J49, hJ49, h⟩ := h
    have k49 : ∀ t8 : CS, kdLe t5 t8 → J49 t8 → GC p l e (rmC 11 B t) s m args below meth c 3 D K E0 B A0 (gc_Q below D K E0 A0 (qR Q) X args s t (rmC 11 B t)) t8 49 [(0, .ref a0), (1, .int a1)] [] := by
      intro t8 lt8 h
      have h := hJ49 t8 h
      refine gc_aloadn C 0 0 dX11_drawnPart_49 rfl rfl ?_
      refine gc_getE C BX11 226 2 (by decide) rfl fe_226 vf_X11_25 rfl (kdLe.k (kdLe.tr lt5 lt8) g2 (by decide) (by decide)) dX11_drawnPart_50 ?_
      refine gc_iloadn C 1 1 dX11_drawnPart_53 rfl rfl ?_
      obtain ⟨g9, h⟩ := h
      refine gc_qald C (ci := 14) (k0 := 2) 226 (by decide) (by decide) (by decide) rfl (CQ := RX4) 3 rfl ft_226 (by decide) (kdLe.k (kdLe.tr lt5 lt8) g2 (by decide) (by decide)) g9 dX11_drawnPart_54 ?_
      obtain ⟨g10, h⟩ := h
      refine gc_deref g10 ?_
      refine gc_astoren C 2 [(2, .ref (oG (fQ t8 226 a0 (Int32.toNatClampNeg a1)))), (0, .ref a0), (1, .int a1)] dX11_drawnPart_55 rfl (by decide) rfl ?_
      refine gc_aloadn C 0 2 dX11_drawnPart_56 rfl rfl ?_
      obtain ⟨g11, h⟩ := h
      refine gc_getI C BX4 121 9 (by decide) rfl ft_121 vf_X11_383 rfl (isC_of g11 (by decide)) dX11_drawnPart_57 ?_
      refine gc_aloadn C 1 0 dX11_drawnPart_60 rfl rfl ?_
      obtain ⟨g12, h⟩ := h
      refine gc_getR C BX11 224 0 (by decide) rfl ft_224 vf_X11_10 rfl (isC_of (kdLe.k (kdLe.tr lt5 lt8) g2 (by decide) (by decide)) (by decide)) (oG (fR t8 224 a0)) (oG_some g12) dX11_drawnPart_61 ?_
      obtain ⟨g13, h⟩ := h
      refine gc_getI C BX9 199 7 (by decide) rfl ft_199 vf_X11_58 rfl (isC_of g13 (by decide)) dX11_drawnPart_64 ?_
      obtain ⟨J155, hJ155, h⟩ := h
      have k155 : ∀ t14 : CS, kdLe t8 t14 → J155 t14 → GC p l e (rmC 11 B t) s m args below meth c 3 D K E0 B A0 (gc_Q below D K E0 A0 (qR Q) X args s t (rmC 11 B t)) t14 155 [(2, .ref (oG (fQ t8 226 a0 (Int32.toNatClampNeg a1))))] [] := by
        intro t14 lt14 h
        have h := hJ155 t14 h
        refine gc_aloadn C 0 2 dX11_drawnPart_155 rfl rfl ?_
        refine gc_ret0 ?_
        exact gc_aret (v := some (oG (fQ t8 226 a0 (Int32.toNatClampNeg a1)))) C E (kdLe.tr lt1 (kdLe.tr lt5 (kdLe.tr lt8 lt14))) dX11_drawnPart_156 ⟨_, rfl, h⟩
      refine gc_icmp_eq C 155 dX11_drawnPart_67 (by decide) (fun c67_2 => ?_) (fun c67_2 => ?_)
      · have h := h.1 c67_2
        refine gc_sub [0] rfl ?_
        exact k155 t8 (kdLe.rf _) h
      · have h := h.2 c67_2
        refine gc_aloadn C 0 2 dX11_drawnPart_70 rfl rfl ?_
        refine gc_aloadn C 1 0 dX11_drawnPart_71 rfl rfl ?_
        refine gc_getR C BX11 224 0 (by decide) rfl ft_224 vf_X11_10 rfl (isC_of (kdLe.k (kdLe.tr lt5 lt8) g2 (by decide) (by decide)) (by decide)) (oG (fR t8 224 a0)) (oG_some g12) dX11_drawnPart_72 ?_
        refine gc_getI C BX9 199 7 (by decide) rfl ft_199 vf_X11_58 rfl (isC_of g13 (by decide)) dX11_drawnPart_75 ?_
        refine gc_putI C BX4 121 9 (by decide) rfl .int ft_121 vf_X11_383 rfl rfl (by decide +kernel) rfl rfl (isC_of g11 (by decide)) dX11_drawnPart_78 ?_
        refine gc_nameS (fun t15 et15 => ?_)
        have h := h t15 et15
        have lt15 : kdLe t8 t15 := kdLe.eq (by rw [et15]; rfl)
        refine gc_aloadn C 1 0 dX11_drawnPart_81 rfl rfl ?_
        obtain ⟨g16, h⟩ := h
        refine gc_getR C BX11 225 1 (by decide) rfl ft_225 vf_X11_19 rfl (isC_of (kdLe.k (kdLe.tr lt5 (kdLe.tr lt8 lt15)) g2 (by decide) (by decide)) (by decide)) (oG (fR t15 225 a0)) (oG_some g16) dX11_drawnPart_82 ?_
        refine gc_aloadn C 1 0 dX11_drawnPart_85 rfl rfl ?_
        obtain ⟨g17, h⟩ := h
        refine gc_getR C BX11 224 0 (by decide) rfl ft_224 vf_X11_10 rfl (isC_of (kdLe.k (kdLe.tr lt5 (kdLe.tr lt8 lt15)) g2 (by decide) (by decide)) (by decide)) (oG (fR t15 224 a0)) (oG_some g17) dX11_drawnPart_86 ?_
        obtain ⟨g18, h⟩ := h
        refine gc_callV C BX6 (y := yX6_renew) (as := [.ref (oG (fR t15 224 a0))]) rfl (by decide) (by decide) (c_X6_renew l D K E0 B A0 (oG (fR t15 225 a0)) (oG (fR t15 224 a0)) t15 _ X h) hk_X6_renew rfl vl_X11_368 kc_X6_renew (isC_of g18 (by decide)) dX11_drawnPart_89 (Nat.le_of_ble_eq_true rfl) (fun _ _ h => h) (qkV (fun t19 h lt19 => ?_))
        refine gc_aloadn C 0 2 dX11_drawnPart_92 rfl rfl ?_
        refine gc_aloadn C 1 0 dX11_drawnPart_93 rfl rfl ?_
        obtain ⟨g20, h⟩ := h
        refine gc_getR C BX11 224 0 (by decide) rfl ft_224 vf_X11_10 rfl (isC_of (kdLe.k (kdLe.tr lt5 (kdLe.tr lt8 (kdLe.tr lt15 lt19))) g2 (by decide) (by decide)) (by decide)) (oG (fR t19 224 a0)) (oG_some g20) dX11_drawnPart_94 ?_
        refine gc_callV C BX4 (y := yX4_layItems) (as := [.ref (oG (fR t19 224 a0))]) rfl (by decide) (by decide) (c_X4_layItems l D K E0 B A0 (oG (fQ t8 226 a0 (Int32.toNatClampNeg a1))) (oG (fR t19 224 a0)) t19 _ X h) hk_X4_layItems rfl vl_X11_384 kc_X4_layItems (isC_of (kdLe.k (kdLe.tr lt15 lt19) g11 (by decide) (by decide)) (by decide)) dX11_drawnPart_97 (Nat.le_of_ble_eq_true rfl) (fun _ _ h => h) (qkV (fun t21 h lt21 => ?_))
        refine gc_aloadn C 0 2 dX11_drawnPart_100 rfl rfl ?_
        obtain ⟨g22, h⟩ := h
        refine gc_getR C BX4 119 7 (by decide) rfl ft_119 vf_X11_302 rfl (isC_of (kdLe.k (kdLe.tr lt15 (kdLe.tr lt19 lt21)) g11 (by decide) (by decide)) (by decide)) (oG (fR t21 119 (oG (fQ t8 226 a0 (Int32.toNatClampNeg a1))))) (oG_some g22) dX11_drawnPart_101 ?_
        refine gc_aloadn C 0 2 dX11_drawnPart_104 rfl rfl ?_
        refine gc_getE C BX4 117 5 (by decide) rfl fe_117 vf_X11_299 rfl (kdLe.k (kdLe.tr lt15 (kdLe.tr lt19 lt21)) g11 (by decide) (by decide)) dX11_drawnPart_105 ?_
        refine gc_aloadn C 0 2 dX11_drawnPart_108 rfl rfl ?_
        refine gc_getI C BX4 118 6 (by decide) rfl ft_118 vf_X11_284 rfl (isC_of (kdLe.k (kdLe.tr lt15 (kdLe.tr lt19 lt21)) g11 (by decide) (by decide)) (by decide)) dX11_drawnPart_109 ?_
        refine gc_aloadn C 1 0 dX11_drawnPart_112 rfl rfl ?_
        obtain ⟨g23, h⟩ := h
        refine gc_getR C BX11 224 0 (by decide) rfl ft_224 vf_X11_10 rfl (isC_of (kdLe.k (kdLe.tr lt5 (kdLe.tr lt8 (kdLe.tr lt15 (kdLe.tr lt19 lt21)))) g2 (by decide) (by decide)) (by decide)) (oG (fR t21 224 a0)) (oG_some g23) dX11_drawnPart_113 ?_
        obtain ⟨g24, h⟩ := h
        refine gc_getI C BX9 196 4 (by decide) rfl ft_196 vf_X11_271 rfl (isC_of g24 (by decide)) dX11_drawnPart_116 ?_
        obtain ⟨g25, h⟩ := h
        refine gc_callV C BX1 (y := yX1_breakItems) (as := [.ref ((oG (fQ t8 226 a0 (Int32.toNatClampNeg a1))) + cOF 117), .int (fI t21 118 (oG (fQ t8 226 a0 (Int32.toNatClampNeg a1)))), .int (fI t21 196 (oG (fR t21 224 a0)))]) rfl (by decide) (by decide) (c_X1_breakItems l D K E0 B A0 (oG (fR t21 119 (oG (fQ t8 226 a0 (Int32.toNatClampNeg a1))))) (oG (fQ t8 226 a0 (Int32.toNatClampNeg a1))) (fI t21 118 (oG (fQ t8 226 a0 (Int32.toNatClampNeg a1)))) (fI t21 196 (oG (fR t21 224 a0))) t21 _ X h) hk_X1_breakItems rfl vl_X11_387 kc_X1_breakItems (isC_of g25 (by decide)) dX11_drawnPart_119 (Nat.le_of_ble_eq_true rfl) (fun _ _ h => h) (qkV (fun t26 h lt26 => ?_))
        refine gc_aloadn C 0 2 dX11_drawnPart_122 rfl rfl ?_
        refine gc_aloadn C 1 0 dX11_drawnPart_123 rfl rfl ?_
        obtain ⟨g27, h⟩ := h
        refine gc_getR C BX11 224 0 (by decide) rfl ft_224 vf_X11_10 rfl (isC_of (kdLe.k (kdLe.tr lt5 (kdLe.tr lt8 (kdLe.tr lt15 (kdLe.tr lt19 (kdLe.tr lt21 lt26))))) g2 (by decide) (by decide)) (by decide)) (oG (fR t26 224 a0)) (oG_some g27) dX11_drawnPart_124 ?_
        refine gc_aloadn C 1 0 dX11_drawnPart_127 rfl rfl ?_
        obtain ⟨g28, h⟩ := h
        refine gc_getR C BX11 225 1 (by decide) rfl ft_225 vf_X11_19 rfl (isC_of (kdLe.k (kdLe.tr lt5 (kdLe.tr lt8 (kdLe.tr lt15 (kdLe.tr lt19 (kdLe.tr lt21 lt26))))) g2 (by decide) (by decide)) (by decide)) (oG (fR t26 225 a0)) (oG_some g28) dX11_drawnPart_128 ?_
        refine gc_callV C BX4 (y := yX4_timeBreaks) (as := [.ref (oG (fR t26 224 a0)), .ref (oG (fR t26 225 a0))]) rfl (by decide) (by decide) (c_X4_timeBreaks l D K E0 B A0 (oG (fQ t8 226 a0 (Int32.toNatClampNeg a1))) (oG (fR t26 224 a0)) (oG (fR t26 225 a0)) t26 _ X h) hk_X4_timeBreaks rfl vl_X11_391 kc_X4_timeBreaks (isC_of (kdLe.k (kdLe.tr lt15 (kdLe.tr lt19 (kdLe.tr lt21 lt26))) g11 (by decide) (by decide)) (by decide)) dX11_drawnPart_131 (Nat.le_of_ble_eq_true rfl) (fun _ _ h => h) (qkV (fun t29 h lt29 => ?_))
        refine gc_aloadn C 0 2 dX11_drawnPart_134 rfl rfl ?_
        obtain ⟨g30, h⟩ := h
        refine gc_getR C BX4 120 8 (by decide) rfl ft_120 vf_X11_317 rfl (isC_of (kdLe.k (kdLe.tr lt15 (kdLe.tr lt19 (kdLe.tr lt21 (kdLe.tr lt26 lt29)))) g11 (by decide) (by decide)) (by decide)) (oG (fR t29 120 (oG (fQ t8 226 a0 (Int32.toNatClampNeg a1))))) (oG_some g30) dX11_drawnPart_135 ?_
        refine gc_aloadn C 0 2 dX11_drawnPart_138 rfl rfl ?_
        obtain ⟨g31, h⟩ := h
        refine gc_getR C BX4 119 7 (by decide) rfl ft_119 vf_X11_302 rfl (isC_of (kdLe.k (kdLe.tr lt15 (kdLe.tr lt19 (kdLe.tr lt21 (kdLe.tr lt26 lt29)))) g11 (by decide) (by decide)) (by decide)) (oG (fR t29 119 (oG (fQ t8 226 a0 (Int32.toNatClampNeg a1))))) (oG_some g31) dX11_drawnPart_139 ?_
        obtain ⟨g32, h⟩ := h
        refine gc_getI C BX1 65 1 (by decide) rfl ft_65 vf_X11_306 rfl (isC_of g32 (by decide)) dX11_drawnPart_142 ?_
        refine gc_aloadn C 1 0 dX11_drawnPart_145 rfl rfl ?_
        obtain ⟨g33, h⟩ := h
        refine gc_getR C BX11 224 0 (by decide) rfl ft_224 vf_X11_10 rfl (isC_of (kdLe.k (kdLe.tr lt5 (kdLe.tr lt8 (kdLe.tr lt15 (kdLe.tr lt19 (kdLe.tr lt21 (kdLe.tr lt26 lt29)))))) g2 (by decide) (by decide)) (by decide)) (oG (fR t29 224 a0)) (oG_some g33) dX11_drawnPart_146 ?_
        obtain ⟨g34, h⟩ := h
        refine gc_getI C BX9 197 5 (by decide) rfl ft_197 vf_X11_274 rfl (isC_of g34 (by decide)) dX11_drawnPart_149 ?_
        obtain ⟨g35, h⟩ := h
        refine gc_callV C BX3 (y := yX3_layPages) (as := [.int (fI t29 65 (oG (fR t29 119 (oG (fQ t8 226 a0 (Int32.toNatClampNeg a1)))))), .int (fI t29 197 (oG (fR t29 224 a0)))]) rfl (by decide) (by decide) (c_X3_layPages l D K E0 B A0 (oG (fR t29 120 (oG (fQ t8 226 a0 (Int32.toNatClampNeg a1))))) (fI t29 65 (oG (fR t29 119 (oG (fQ t8 226 a0 (Int32.toNatClampNeg a1)))))) (fI t29 197 (oG (fR t29 224 a0))) t29 _ X h) hk_X3_layPages rfl vl_X11_395 kc_X3_layPages (isC_of g35 (by decide)) dX11_drawnPart_152 (Nat.le_of_ble_eq_true rfl) (fun _ _ h => h) (qkV (fun t36 h lt36 => ?_))
        refine gc_sub [0] rfl ?_
        exact k155 t36 (kdLe.tr lt15 (kdLe.tr lt19 (kdLe.tr lt21 (kdLe.tr lt26 (kdLe.tr lt29 lt36))))) h
    refine gc_ifnonnull C 49 dX11_drawnPart_32 (by decide) (fun c32_3 => ?_) (fun c32_3 => ?_)
    · have h := h.2 c32_3
      exact k49 t5 (kdLe.rf _) h
    · have h := h.1 c32_3
      refine gc_aloadn C 0 0 dX11_drawnPart_35 rfl rfl ?_
      refine gc_getE C BX11 226 2 (by decide) rfl fe_226 vf_X11_25 rfl (kdLe.k lt5 g2 (by decide) (by decide)) dX11_drawnPart_36 ?_
      refine gc_iloadn C 1 1 dX11_drawnPart_39 rfl rfl ?_
      obtain ⟨g37, h⟩ := h
      refine gc_new C BX4 hd_X4 vn_X11_23 g37 dX11_drawnPart_40 (fun hz38 => ?_)
      have h := h hz38
      refine gc_nameS (fun t39 et39 => ?_)
      have h := h t39 et39
      have lt39 : kdLe t5 t39 := by rw [et39]; exact newO_le hz38
      refine gc_dup C dX11_drawnPart_43 rfl ?_
      refine gc_iloadn C 1 1 dX11_drawnPart_44 rfl rfl ?_
      refine gc_callI C (y := yX4_init) (as := [.int a1]) rfl (by decide) (by decide) (c_X4_init l D K E0 B A0 (szC t5) a1 t39 _ X h) hk_X4_init rfl rfl vl_X11_381 kc_X4_init dX11_drawnPart_45 (Nat.le_of_ble_eq_true rfl) (fun _ _ h => h) (qkV (fun t40 h lt40 => ?_))
      obtain ⟨g41, h⟩ := h
      obtain ⟨g42, h⟩ := h
      refine gc_qast C (ci := 14) (k0 := 2) 226 (by decide) (by decide) (by decide) rfl (r := (RX4, TX4, 10)) 3 rfl rfl (by decide) (by decide) (isC_of g41 (by decide)) ft_226 (by decide) (kdLe.k (kdLe.tr lt5 (kdLe.tr lt39 lt40)) g2 (by decide) (by decide)) g42 dX11_drawnPart_48 ?_
      refine gc_nameS (fun t43 et43 => ?_)
      have h := h t43 et43
      have lt43 : kdLe t40 t43 := kdLe.eq (by rw [et43]; rfl)
      exact k49 t43 (kdLe.tr lt39 (kdLe.tr lt40 lt43)) h
  · have h := h.1 c12_1
    obtain ⟨g6, h⟩ := h
    exact gc_throwSW C (text := "the part cannot be drawn") rfl (by decide) (Nat.le_of_ble_eq_true rfl) ex_X11_37_41 (by decide +kernel) dX11_drawnPart_15 dX11_drawnPart_18 dX11_drawnPart_19 dX11_drawnPart_22 dX11_drawnPart_25 g6 h
def w_X11_items (B : Nat × Nat) (a0 : Nat) (a1 : Int32) (t : CS) (Q : Int32 → CS → Prop) (X : String → CS → Prop) : Prop := (kdC t a0 = 14) ∧ w_X11_drawnPart B a0 a1 t (fun r2 t2 => (kdC t2 r2 = 7) ∧ Q (fI t2 118 r2) t2) X
set_option maxRecDepth 20000 in
set_option maxHeartbeats 2000000 in
theorem c_X11_items (l : Launch) (D : va_G) (K : Nat → ClassId) (E0 : Nat) (B : Nat × Nat) (A0 : Nat → Prop) (a0 : Nat) (a1 : Int32) (t : CS) (Q : Int32 → CS → Prop) (X : String → CS → Prop) (h : w_X11_items B a0 a1 t Q X) : MetC l yX11_items cX11_items 2 (some .int) 12 [.ref a0, .int a1] (qI Q) X D K E0 B A0 t := by
  unfold w_X11_items at h
  refine gc_start (by decide) rfl (Nat.le_of_ble_eq_true rfl) (fun p e s m args below meth c C E => ?_)
  refine gc_aloadn C 0 0 dX11_items_0 rfl rfl ?_
  refine gc_iloadn C 1 1 dX11_items_1 rfl rfl ?_
  obtain ⟨g1, h⟩ := h
  refine gc_callV C BX11 (y := yX11_drawnPart) (as := [.int a1]) rfl (by decide) (by decide) (c_X11_drawnPart l D K E0 B A0 a0 a1 t _ X h) hk_X11_drawnPart rfl vl_X11_280 kc_X11_drawnPart (isC_of g1 (by decide)) dX11_items_2 (Nat.le_of_ble_eq_true rfl) (fun _ _ h => h) (qkR (fun r2 t2 h lt2 => ?_))
  obtain ⟨g3, h⟩ := h
  refine gc_getI C BX4 118 6 (by decide) rfl ft_118 vf_X11_284 rfl (isC_of g3 (by decide)) dX11_items_5 ?_
  exact gc_iret C E lt2 dX11_items_8 ⟨_, rfl, h⟩
def w_X11_itemKind (B : Nat × Nat) (a0 : Nat) (a1 : Int32) (a2 : Int32) (t : CS) (Q : Int32 → CS → Prop) (X : String → CS → Prop) : Prop := (kdC t a0 = 14) ∧ w_X11_drawnPart B a0 a1 t (fun r2 t2 => (kdC t2 r2 = 7) ∧ w_X11_requireIndex B a2 (fI t2 118 r2) t2 (fun t4 => (vp_in a2 (cLN 113)) ∧ Q (fA t4 113 r2 (Int32.toNatClampNeg a2)) t4) X) X
set_option maxRecDepth 20000 in
set_option maxHeartbeats 2000000 in
theorem c_X11_itemKind (l : Launch) (D : va_G) (K : Nat → ClassId) (E0 : Nat) (B : Nat × Nat) (A0 : Nat → Prop) (a0 : Nat) (a1 : Int32) (a2 : Int32) (t : CS) (Q : Int32 → CS → Prop) (X : String → CS → Prop) (h : w_X11_itemKind B a0 a1 a2 t Q X) : MetC l yX11_itemKind cX11_itemKind 4 (some .int) 12 [.ref a0, .int a1, .int a2] (qI Q) X D K E0 B A0 t := by
  unfold w_X11_itemKind at h
  refine gc_start (by decide) rfl (Nat.le_of_ble_eq_true rfl) (fun p e s m args below meth c C E => ?_)
  refine gc_aloadn C 0 0 dX11_itemKind_0 rfl rfl ?_
  refine gc_iloadn C 1 1 dX11_itemKind_1 rfl rfl ?_
  obtain ⟨g1, h⟩ := h
  refine gc_callV C BX11 (y := yX11_drawnPart) (as := [.int a1]) rfl (by decide) (by decide) (c_X11_drawnPart l D K E0 B A0 a0 a1 t _ X h) hk_X11_drawnPart rfl vl_X11_280 kc_X11_drawnPart (isC_of g1 (by decide)) dX11_itemKind_2 (Nat.le_of_ble_eq_true rfl) (fun _ _ h => h) (qkR (fun r2 t2 h lt2 => ?_))
  refine gc_astoren C 3 [(3, .ref r2), (0, .ref a0), (1, .int a1), (2, .int a2)] dX11_itemKind_5 rfl (by decide) rfl ?_
  refine gc_iloadn C 3 2 dX11_itemKind_6 rfl rfl ?_
  refine gc_aloadn C 0 3 dX11_itemKind_7 rfl rfl ?_
  obtain ⟨g3, h⟩ := h
  refine gc_getI C BX4 118 6 (by decide) rfl ft_118 vf_X11_284 rfl (isC_of g3 (by decide)) dX11_itemKind_8 ?_
  refine gc_callS C (y := yX11_requireIndex) (as := [.int a2, .int (fI t2 118 r2)]) rfl (by decide) (by decide) (c_X11_requireIndex l D K E0 B A0 a2 (fI t2 118 r2) t2 _ X h) hk_X11_requireIndex rfl vl_X11_119 kc_X11_requireIndex dX11_itemKind_11 (Nat.le_of_ble_eq_true rfl) (fun _ _ h => h) (qkV (fun t4 h lt4 => ?_))
  refine gc_aloadn C 0 3 dX11_itemKind_14 rfl rfl ?_
  refine gc_getE C BX4 113 1 (by decide) rfl fe_113 vf_X11_287 rfl (kdLe.k lt4 g3 (by decide) (by decide)) dX11_itemKind_15 ?_
  refine gc_iloadn C 3 2 dX11_itemKind_18 rfl rfl ?_
  obtain ⟨g5, h⟩ := h
  refine gc_iald C (ci := 7) (k0 := 1) 113 (by decide) (by decide) (by decide) rfl ft_113 (by decide) (kdLe.k lt4 g3 (by decide) (by decide)) g5 dX11_itemKind_19 ?_
  exact gc_iret C E (kdLe.tr lt2 lt4) dX11_itemKind_20 ⟨_, rfl, h⟩
def w_X11_itemBar (B : Nat × Nat) (a0 : Nat) (a1 : Int32) (a2 : Int32) (t : CS) (Q : Int32 → CS → Prop) (X : String → CS → Prop) : Prop := (kdC t a0 = 14) ∧ w_X11_drawnPart B a0 a1 t (fun r2 t2 => (kdC t2 r2 = 7) ∧ w_X11_requireIndex B a2 (fI t2 118 r2) t2 (fun t4 => (vp_in a2 (cLN 114)) ∧ Q (fA t4 114 r2 (Int32.toNatClampNeg a2)) t4) X) X
set_option maxRecDepth 20000 in
set_option maxHeartbeats 2000000 in
theorem c_X11_itemBar (l : Launch) (D : va_G) (K : Nat → ClassId) (E0 : Nat) (B : Nat × Nat) (A0 : Nat → Prop) (a0 : Nat) (a1 : Int32) (a2 : Int32) (t : CS) (Q : Int32 → CS → Prop) (X : String → CS → Prop) (h : w_X11_itemBar B a0 a1 a2 t Q X) : MetC l yX11_itemBar cX11_itemBar 4 (some .int) 12 [.ref a0, .int a1, .int a2] (qI Q) X D K E0 B A0 t := by
  unfold w_X11_itemBar at h
  refine gc_start (by decide) rfl (Nat.le_of_ble_eq_true rfl) (fun p e s m args below meth c C E => ?_)
  refine gc_aloadn C 0 0 dX11_itemBar_0 rfl rfl ?_
  refine gc_iloadn C 1 1 dX11_itemBar_1 rfl rfl ?_
  obtain ⟨g1, h⟩ := h
  refine gc_callV C BX11 (y := yX11_drawnPart) (as := [.int a1]) rfl (by decide) (by decide) (c_X11_drawnPart l D K E0 B A0 a0 a1 t _ X h) hk_X11_drawnPart rfl vl_X11_280 kc_X11_drawnPart (isC_of g1 (by decide)) dX11_itemBar_2 (Nat.le_of_ble_eq_true rfl) (fun _ _ h => h) (qkR (fun r2 t2 h lt2 => ?_))
  refine gc_astoren C 3 [(3, .ref r2), (0, .ref a0), (1, .int a1), (2, .int a2)] dX11_itemBar_5 rfl (by decide) rfl ?_
  refine gc_iloadn C 3 2 dX11_itemBar_6 rfl rfl ?_
  refine gc_aloadn C 0 3 dX11_itemBar_7 rfl rfl ?_
  obtain ⟨g3, h⟩ := h
  refine gc_getI C BX4 118 6 (by decide) rfl ft_118 vf_X11_284 rfl (isC_of g3 (by decide)) dX11_itemBar_8 ?_
  refine gc_callS C (y := yX11_requireIndex) (as := [.int a2, .int (fI t2 118 r2)]) rfl (by decide) (by decide) (c_X11_requireIndex l D K E0 B A0 a2 (fI t2 118 r2) t2 _ X h) hk_X11_requireIndex rfl vl_X11_119 kc_X11_requireIndex dX11_itemBar_11 (Nat.le_of_ble_eq_true rfl) (fun _ _ h => h) (qkV (fun t4 h lt4 => ?_))
  refine gc_aloadn C 0 3 dX11_itemBar_14 rfl rfl ?_
  refine gc_getE C BX4 114 2 (by decide) rfl fe_114 vf_X11_290 rfl (kdLe.k lt4 g3 (by decide) (by decide)) dX11_itemBar_15 ?_
  refine gc_iloadn C 3 2 dX11_itemBar_18 rfl rfl ?_
  obtain ⟨g5, h⟩ := h
  refine gc_iald C (ci := 7) (k0 := 2) 114 (by decide) (by decide) (by decide) rfl ft_114 (by decide) (kdLe.k lt4 g3 (by decide) (by decide)) g5 dX11_itemBar_19 ?_
  exact gc_iret C E (kdLe.tr lt2 lt4) dX11_itemBar_20 ⟨_, rfl, h⟩
def w_X11_itemBars (B : Nat × Nat) (a0 : Nat) (a1 : Int32) (a2 : Int32) (t : CS) (Q : Int32 → CS → Prop) (X : String → CS → Prop) : Prop := (kdC t a0 = 14) ∧ w_X11_drawnPart B a0 a1 t (fun r2 t2 => (kdC t2 r2 = 7) ∧ w_X11_requireIndex B a2 (fI t2 118 r2) t2 (fun t4 => (vp_in a2 (cLN 115)) ∧ Q (fA t4 115 r2 (Int32.toNatClampNeg a2)) t4) X) X
set_option maxRecDepth 20000 in
set_option maxHeartbeats 2000000 in
theorem c_X11_itemBars (l : Launch) (D : va_G) (K : Nat → ClassId) (E0 : Nat) (B : Nat × Nat) (A0 : Nat → Prop) (a0 : Nat) (a1 : Int32) (a2 : Int32) (t : CS) (Q : Int32 → CS → Prop) (X : String → CS → Prop) (h : w_X11_itemBars B a0 a1 a2 t Q X) : MetC l yX11_itemBars cX11_itemBars 4 (some .int) 12 [.ref a0, .int a1, .int a2] (qI Q) X D K E0 B A0 t := by
  unfold w_X11_itemBars at h
  refine gc_start (by decide) rfl (Nat.le_of_ble_eq_true rfl) (fun p e s m args below meth c C E => ?_)
  refine gc_aloadn C 0 0 dX11_itemBars_0 rfl rfl ?_
  refine gc_iloadn C 1 1 dX11_itemBars_1 rfl rfl ?_
  obtain ⟨g1, h⟩ := h
  refine gc_callV C BX11 (y := yX11_drawnPart) (as := [.int a1]) rfl (by decide) (by decide) (c_X11_drawnPart l D K E0 B A0 a0 a1 t _ X h) hk_X11_drawnPart rfl vl_X11_280 kc_X11_drawnPart (isC_of g1 (by decide)) dX11_itemBars_2 (Nat.le_of_ble_eq_true rfl) (fun _ _ h => h) (qkR (fun r2 t2 h lt2 => ?_))
  refine gc_astoren C 3 [(3, .ref r2), (0, .ref a0), (1, .int a1), (2, .int a2)] dX11_itemBars_5 rfl (by decide) rfl ?_
  refine gc_iloadn C 3 2 dX11_itemBars_6 rfl rfl ?_
  refine gc_aloadn C 0 3 dX11_itemBars_7 rfl rfl ?_
  obtain ⟨g3, h⟩ := h
  refine gc_getI C BX4 118 6 (by decide) rfl ft_118 vf_X11_284 rfl (isC_of g3 (by decide)) dX11_itemBars_8 ?_
  refine gc_callS C (y := yX11_requireIndex) (as := [.int a2, .int (fI t2 118 r2)]) rfl (by decide) (by decide) (c_X11_requireIndex l D K E0 B A0 a2 (fI t2 118 r2) t2 _ X h) hk_X11_requireIndex rfl vl_X11_119 kc_X11_requireIndex dX11_itemBars_11 (Nat.le_of_ble_eq_true rfl) (fun _ _ h => h) (qkV (fun t4 h lt4 => ?_))
  refine gc_aloadn C 0 3 dX11_itemBars_14 rfl rfl ?_
  refine gc_getE C BX4 115 3 (by decide) rfl fe_115 vf_X11_293 rfl (kdLe.k lt4 g3 (by decide) (by decide)) dX11_itemBars_15 ?_
  refine gc_iloadn C 3 2 dX11_itemBars_18 rfl rfl ?_
  obtain ⟨g5, h⟩ := h
  refine gc_iald C (ci := 7) (k0 := 3) 115 (by decide) (by decide) (by decide) rfl ft_115 (by decide) (kdLe.k lt4 g3 (by decide) (by decide)) g5 dX11_itemBars_19 ?_
  exact gc_iret C E (kdLe.tr lt2 lt4) dX11_itemBars_20 ⟨_, rfl, h⟩
def w_X11_cue (B : Nat × Nat) (a0 : Nat) (a1 : Int32) (a2 : Int32) (t : CS) (Q : Int32 → CS → Prop) (X : String → CS → Prop) : Prop := (kdC t a0 = 14) ∧ w_X11_drawnPart B a0 a1 t (fun r2 t2 => (kdC t2 r2 = 7) ∧ w_X11_requireIndex B a2 (fI t2 118 r2) t2 (fun t4 => (vp_in a2 (cLN 116)) ∧ Q (fA t4 116 r2 (Int32.toNatClampNeg a2)) t4) X) X
set_option maxRecDepth 20000 in
set_option maxHeartbeats 2000000 in
theorem c_X11_cue (l : Launch) (D : va_G) (K : Nat → ClassId) (E0 : Nat) (B : Nat × Nat) (A0 : Nat → Prop) (a0 : Nat) (a1 : Int32) (a2 : Int32) (t : CS) (Q : Int32 → CS → Prop) (X : String → CS → Prop) (h : w_X11_cue B a0 a1 a2 t Q X) : MetC l yX11_cue cX11_cue 4 (some .int) 12 [.ref a0, .int a1, .int a2] (qI Q) X D K E0 B A0 t := by
  unfold w_X11_cue at h
  refine gc_start (by decide) rfl (Nat.le_of_ble_eq_true rfl) (fun p e s m args below meth c C E => ?_)
  refine gc_aloadn C 0 0 dX11_cue_0 rfl rfl ?_
  refine gc_iloadn C 1 1 dX11_cue_1 rfl rfl ?_
  obtain ⟨g1, h⟩ := h
  refine gc_callV C BX11 (y := yX11_drawnPart) (as := [.int a1]) rfl (by decide) (by decide) (c_X11_drawnPart l D K E0 B A0 a0 a1 t _ X h) hk_X11_drawnPart rfl vl_X11_280 kc_X11_drawnPart (isC_of g1 (by decide)) dX11_cue_2 (Nat.le_of_ble_eq_true rfl) (fun _ _ h => h) (qkR (fun r2 t2 h lt2 => ?_))
  refine gc_astoren C 3 [(3, .ref r2), (0, .ref a0), (1, .int a1), (2, .int a2)] dX11_cue_5 rfl (by decide) rfl ?_
  refine gc_iloadn C 3 2 dX11_cue_6 rfl rfl ?_
  refine gc_aloadn C 0 3 dX11_cue_7 rfl rfl ?_
  obtain ⟨g3, h⟩ := h
  refine gc_getI C BX4 118 6 (by decide) rfl ft_118 vf_X11_284 rfl (isC_of g3 (by decide)) dX11_cue_8 ?_
  refine gc_callS C (y := yX11_requireIndex) (as := [.int a2, .int (fI t2 118 r2)]) rfl (by decide) (by decide) (c_X11_requireIndex l D K E0 B A0 a2 (fI t2 118 r2) t2 _ X h) hk_X11_requireIndex rfl vl_X11_119 kc_X11_requireIndex dX11_cue_11 (Nat.le_of_ble_eq_true rfl) (fun _ _ h => h) (qkV (fun t4 h lt4 => ?_))
  refine gc_aloadn C 0 3 dX11_cue_14 rfl rfl ?_
  refine gc_getE C BX4 116 4 (by decide) rfl fe_116 vf_X11_296 rfl (kdLe.k lt4 g3 (by decide) (by decide)) dX11_cue_15 ?_
  refine gc_iloadn C 3 2 dX11_cue_18 rfl rfl ?_
  obtain ⟨g5, h⟩ := h
  refine gc_iald C (ci := 7) (k0 := 4) 116 (by decide) (by decide) (by decide) rfl ft_116 (by decide) (kdLe.k lt4 g3 (by decide) (by decide)) g5 dX11_cue_19 ?_
  exact gc_iret C E (kdLe.tr lt2 lt4) dX11_cue_20 ⟨_, rfl, h⟩
def w_X11_itemWidth (B : Nat × Nat) (a0 : Nat) (a1 : Int32) (a2 : Int32) (t : CS) (Q : Int32 → CS → Prop) (X : String → CS → Prop) : Prop := (kdC t a0 = 14) ∧ w_X11_drawnPart B a0 a1 t (fun r2 t2 => (kdC t2 r2 = 7) ∧ w_X11_requireIndex B a2 (fI t2 118 r2) t2 (fun t4 => (vp_in a2 (cLN 117)) ∧ Q (fA t4 117 r2 (Int32.toNatClampNeg a2)) t4) X) X
set_option maxRecDepth 20000 in
set_option maxHeartbeats 2000000 in
theorem c_X11_itemWidth (l : Launch) (D : va_G) (K : Nat → ClassId) (E0 : Nat) (B : Nat × Nat) (A0 : Nat → Prop) (a0 : Nat) (a1 : Int32) (a2 : Int32) (t : CS) (Q : Int32 → CS → Prop) (X : String → CS → Prop) (h : w_X11_itemWidth B a0 a1 a2 t Q X) : MetC l yX11_itemWidth cX11_itemWidth 4 (some .int) 12 [.ref a0, .int a1, .int a2] (qI Q) X D K E0 B A0 t := by
  unfold w_X11_itemWidth at h
  refine gc_start (by decide) rfl (Nat.le_of_ble_eq_true rfl) (fun p e s m args below meth c C E => ?_)
  refine gc_aloadn C 0 0 dX11_itemWidth_0 rfl rfl ?_
  refine gc_iloadn C 1 1 dX11_itemWidth_1 rfl rfl ?_
  obtain ⟨g1, h⟩ := h
  refine gc_callV C BX11 (y := yX11_drawnPart) (as := [.int a1]) rfl (by decide) (by decide) (c_X11_drawnPart l D K E0 B A0 a0 a1 t _ X h) hk_X11_drawnPart rfl vl_X11_280 kc_X11_drawnPart (isC_of g1 (by decide)) dX11_itemWidth_2 (Nat.le_of_ble_eq_true rfl) (fun _ _ h => h) (qkR (fun r2 t2 h lt2 => ?_))
  refine gc_astoren C 3 [(3, .ref r2), (0, .ref a0), (1, .int a1), (2, .int a2)] dX11_itemWidth_5 rfl (by decide) rfl ?_
  refine gc_iloadn C 3 2 dX11_itemWidth_6 rfl rfl ?_
  refine gc_aloadn C 0 3 dX11_itemWidth_7 rfl rfl ?_
  obtain ⟨g3, h⟩ := h
  refine gc_getI C BX4 118 6 (by decide) rfl ft_118 vf_X11_284 rfl (isC_of g3 (by decide)) dX11_itemWidth_8 ?_
  refine gc_callS C (y := yX11_requireIndex) (as := [.int a2, .int (fI t2 118 r2)]) rfl (by decide) (by decide) (c_X11_requireIndex l D K E0 B A0 a2 (fI t2 118 r2) t2 _ X h) hk_X11_requireIndex rfl vl_X11_119 kc_X11_requireIndex dX11_itemWidth_11 (Nat.le_of_ble_eq_true rfl) (fun _ _ h => h) (qkV (fun t4 h lt4 => ?_))
  refine gc_aloadn C 0 3 dX11_itemWidth_14 rfl rfl ?_
  refine gc_getE C BX4 117 5 (by decide) rfl fe_117 vf_X11_299 rfl (kdLe.k lt4 g3 (by decide) (by decide)) dX11_itemWidth_15 ?_
  refine gc_iloadn C 3 2 dX11_itemWidth_18 rfl rfl ?_
  obtain ⟨g5, h⟩ := h
  refine gc_iald C (ci := 7) (k0 := 5) 117 (by decide) (by decide) (by decide) rfl ft_117 (by decide) (kdLe.k lt4 g3 (by decide) (by decide)) g5 dX11_itemWidth_19 ?_
  exact gc_iret C E (kdLe.tr lt2 lt4) dX11_itemWidth_20 ⟨_, rfl, h⟩
def w_X11_lines (B : Nat × Nat) (a0 : Nat) (a1 : Int32) (t : CS) (Q : Int32 → CS → Prop) (X : String → CS → Prop) : Prop := (kdC t a0 = 14) ∧ w_X11_drawnPart B a0 a1 t (fun r2 t2 => (kdC t2 r2 = 7) ∧ ((fR t2 119 r2) ≠ none) ∧ (kdC t2 (oG (fR t2 119 r2)) = 4) ∧ Q (fI t2 65 (oG (fR t2 119 r2))) t2) X
set_option maxRecDepth 20000 in
set_option maxHeartbeats 2000000 in
theorem c_X11_lines (l : Launch) (D : va_G) (K : Nat → ClassId) (E0 : Nat) (B : Nat × Nat) (A0 : Nat → Prop) (a0 : Nat) (a1 : Int32) (t : CS) (Q : Int32 → CS → Prop) (X : String → CS → Prop) (h : w_X11_lines B a0 a1 t Q X) : MetC l yX11_lines cX11_lines 2 (some .int) 12 [.ref a0, .int a1] (qI Q) X D K E0 B A0 t := by
  unfold w_X11_lines at h
  refine gc_start (by decide) rfl (Nat.le_of_ble_eq_true rfl) (fun p e s m args below meth c C E => ?_)
  refine gc_aloadn C 0 0 dX11_lines_0 rfl rfl ?_
  refine gc_iloadn C 1 1 dX11_lines_1 rfl rfl ?_
  obtain ⟨g1, h⟩ := h
  refine gc_callV C BX11 (y := yX11_drawnPart) (as := [.int a1]) rfl (by decide) (by decide) (c_X11_drawnPart l D K E0 B A0 a0 a1 t _ X h) hk_X11_drawnPart rfl vl_X11_280 kc_X11_drawnPart (isC_of g1 (by decide)) dX11_lines_2 (Nat.le_of_ble_eq_true rfl) (fun _ _ h => h) (qkR (fun r2 t2 h lt2 => ?_))
  obtain ⟨g3, h⟩ := h
  obtain ⟨g4, h⟩ := h
  refine gc_getR C BX4 119 7 (by decide) rfl ft_119 vf_X11_302 rfl (isC_of g3 (by decide)) (oG (fR t2 119 r2)) (oG_some g4) dX11_lines_5 ?_
  obtain ⟨g5, h⟩ := h
  refine gc_getI C BX1 65 1 (by decide) rfl ft_65 vf_X11_306 rfl (isC_of g5 (by decide)) dX11_lines_8 ?_
  exact gc_iret C E lt2 dX11_lines_11 ⟨_, rfl, h⟩
def w_X11_firstItem (B : Nat × Nat) (a0 : Nat) (a1 : Int32) (a2 : Int32) (t : CS) (Q : Int32 → CS → Prop) (X : String → CS → Prop) : Prop := (kdC t a0 = 14) ∧ w_X11_drawnPart B a0 a1 t (fun r2 t2 => (kdC t2 r2 = 7) ∧ ((fR t2 119 r2) ≠ none) ∧ (kdC t2 (oG (fR t2 119 r2)) = 4) ∧ w_X11_requireIndex B a2 (fI t2 65 (oG (fR t2 119 r2))) t2 (fun t6 => (vp_in a2 (cLN 64)) ∧ Q (fA t6 64 (oG (fR t2 119 r2)) (Int32.toNatClampNeg a2)) t6) X) X
set_option maxRecDepth 20000 in
set_option maxHeartbeats 2000000 in
theorem c_X11_firstItem (l : Launch) (D : va_G) (K : Nat → ClassId) (E0 : Nat) (B : Nat × Nat) (A0 : Nat → Prop) (a0 : Nat) (a1 : Int32) (a2 : Int32) (t : CS) (Q : Int32 → CS → Prop) (X : String → CS → Prop) (h : w_X11_firstItem B a0 a1 a2 t Q X) : MetC l yX11_firstItem cX11_firstItem 4 (some .int) 12 [.ref a0, .int a1, .int a2] (qI Q) X D K E0 B A0 t := by
  unfold w_X11_firstItem at h
  refine gc_start (by decide) rfl (Nat.le_of_ble_eq_true rfl) (fun p e s m args below meth c C E => ?_)
  refine gc_aloadn C 0 0 dX11_firstItem_0 rfl rfl ?_
  refine gc_iloadn C 1 1 dX11_firstItem_1 rfl rfl ?_
  obtain ⟨g1, h⟩ := h
  refine gc_callV C BX11 (y := yX11_drawnPart) (as := [.int a1]) rfl (by decide) (by decide) (c_X11_drawnPart l D K E0 B A0 a0 a1 t _ X h) hk_X11_drawnPart rfl vl_X11_280 kc_X11_drawnPart (isC_of g1 (by decide)) dX11_firstItem_2 (Nat.le_of_ble_eq_true rfl) (fun _ _ h => h) (qkR (fun r2 t2 h lt2 => ?_))
  obtain ⟨g3, h⟩ := h
  obtain ⟨g4, h⟩ := h
  refine gc_getR C BX4 119 7 (by decide) rfl ft_119 vf_X11_302 rfl (isC_of g3 (by decide)) (oG (fR t2 119 r2)) (oG_some g4) dX11_firstItem_5 ?_
  refine gc_astoren C 3 [(3, .ref (oG (fR t2 119 r2))), (0, .ref a0), (1, .int a1), (2, .int a2)] dX11_firstItem_8 rfl (by decide) rfl ?_
  refine gc_iloadn C 3 2 dX11_firstItem_9 rfl rfl ?_
  refine gc_aloadn C 0 3 dX11_firstItem_10 rfl rfl ?_
  obtain ⟨g5, h⟩ := h
  refine gc_getI C BX1 65 1 (by decide) rfl ft_65 vf_X11_306 rfl (isC_of g5 (by decide)) dX11_firstItem_11 ?_
  refine gc_callS C (y := yX11_requireIndex) (as := [.int a2, .int (fI t2 65 (oG (fR t2 119 r2)))]) rfl (by decide) (by decide) (c_X11_requireIndex l D K E0 B A0 a2 (fI t2 65 (oG (fR t2 119 r2))) t2 _ X h) hk_X11_requireIndex rfl vl_X11_119 kc_X11_requireIndex dX11_firstItem_14 (Nat.le_of_ble_eq_true rfl) (fun _ _ h => h) (qkV (fun t6 h lt6 => ?_))
  refine gc_aloadn C 0 3 dX11_firstItem_17 rfl rfl ?_
  refine gc_getE C BX1 64 0 (by decide) rfl fe_64 vf_X11_311 rfl (kdLe.k lt6 g5 (by decide) (by decide)) dX11_firstItem_18 ?_
  refine gc_iloadn C 3 2 dX11_firstItem_21 rfl rfl ?_
  obtain ⟨g7, h⟩ := h
  refine gc_iald C (ci := 4) (k0 := 0) 64 (by decide) (by decide) (by decide) rfl ft_64 (by decide) (kdLe.k lt6 g5 (by decide) (by decide)) g7 dX11_firstItem_22 ?_
  exact gc_iret C E (kdLe.tr lt2 lt6) dX11_firstItem_23 ⟨_, rfl, h⟩
def w_X11_badness (B : Nat × Nat) (a0 : Nat) (a1 : Int32) (t : CS) (Q : Int32 → CS → Prop) (X : String → CS → Prop) : Prop := (kdC t a0 = 14) ∧ w_X11_drawnPart B a0 a1 t (fun r2 t2 => (kdC t2 r2 = 7) ∧ ((fR t2 119 r2) ≠ none) ∧ (kdC t2 (oG (fR t2 119 r2)) = 4) ∧ (vp_in 0 (cLN 66)) ∧ Q (fA t2 66 (oG (fR t2 119 r2)) (Int32.toNatClampNeg 0)) t2) X
set_option maxRecDepth 20000 in
set_option maxHeartbeats 2000000 in
theorem c_X11_badness (l : Launch) (D : va_G) (K : Nat → ClassId) (E0 : Nat) (B : Nat × Nat) (A0 : Nat → Prop) (a0 : Nat) (a1 : Int32) (t : CS) (Q : Int32 → CS → Prop) (X : String → CS → Prop) (h : w_X11_badness B a0 a1 t Q X) : MetC l yX11_badness cX11_badness 2 (some .int) 12 [.ref a0, .int a1] (qI Q) X D K E0 B A0 t := by
  unfold w_X11_badness at h
  refine gc_start (by decide) rfl (Nat.le_of_ble_eq_true rfl) (fun p e s m args below meth c C E => ?_)
  refine gc_aloadn C 0 0 dX11_badness_0 rfl rfl ?_
  refine gc_iloadn C 1 1 dX11_badness_1 rfl rfl ?_
  obtain ⟨g1, h⟩ := h
  refine gc_callV C BX11 (y := yX11_drawnPart) (as := [.int a1]) rfl (by decide) (by decide) (c_X11_drawnPart l D K E0 B A0 a0 a1 t _ X h) hk_X11_drawnPart rfl vl_X11_280 kc_X11_drawnPart (isC_of g1 (by decide)) dX11_badness_2 (Nat.le_of_ble_eq_true rfl) (fun _ _ h => h) (qkR (fun r2 t2 h lt2 => ?_))
  obtain ⟨g3, h⟩ := h
  obtain ⟨g4, h⟩ := h
  refine gc_getR C BX4 119 7 (by decide) rfl ft_119 vf_X11_302 rfl (isC_of g3 (by decide)) (oG (fR t2 119 r2)) (oG_some g4) dX11_badness_5 ?_
  obtain ⟨g5, h⟩ := h
  refine gc_getE C BX1 66 2 (by decide) rfl fe_66 vf_X11_314 rfl g5 dX11_badness_8 ?_
  refine gc_iconst C 0 dX11_badness_11 (by decide) ?_
  obtain ⟨g6, h⟩ := h
  refine gc_iald C (ci := 4) (k0 := 2) 66 (by decide) (by decide) (by decide) rfl ft_66 (by decide) g5 g6 dX11_badness_12 ?_
  exact gc_iret C E lt2 dX11_badness_13 ⟨_, rfl, h⟩
def w_X11_pages (B : Nat × Nat) (a0 : Nat) (a1 : Int32) (t : CS) (Q : Int32 → CS → Prop) (X : String → CS → Prop) : Prop := (kdC t a0 = 14) ∧ w_X11_drawnPart B a0 a1 t (fun r2 t2 => (kdC t2 r2 = 7) ∧ ((fR t2 120 r2) ≠ none) ∧ (kdC t2 (oG (fR t2 120 r2)) = 6) ∧ Q (fI t2 98 (oG (fR t2 120 r2))) t2) X
set_option maxRecDepth 20000 in
set_option maxHeartbeats 2000000 in
theorem c_X11_pages (l : Launch) (D : va_G) (K : Nat → ClassId) (E0 : Nat) (B : Nat × Nat) (A0 : Nat → Prop) (a0 : Nat) (a1 : Int32) (t : CS) (Q : Int32 → CS → Prop) (X : String → CS → Prop) (h : w_X11_pages B a0 a1 t Q X) : MetC l yX11_pages cX11_pages 2 (some .int) 12 [.ref a0, .int a1] (qI Q) X D K E0 B A0 t := by
  unfold w_X11_pages at h
  refine gc_start (by decide) rfl (Nat.le_of_ble_eq_true rfl) (fun p e s m args below meth c C E => ?_)
  refine gc_aloadn C 0 0 dX11_pages_0 rfl rfl ?_
  refine gc_iloadn C 1 1 dX11_pages_1 rfl rfl ?_
  obtain ⟨g1, h⟩ := h
  refine gc_callV C BX11 (y := yX11_drawnPart) (as := [.int a1]) rfl (by decide) (by decide) (c_X11_drawnPart l D K E0 B A0 a0 a1 t _ X h) hk_X11_drawnPart rfl vl_X11_280 kc_X11_drawnPart (isC_of g1 (by decide)) dX11_pages_2 (Nat.le_of_ble_eq_true rfl) (fun _ _ h => h) (qkR (fun r2 t2 h lt2 => ?_))
  obtain ⟨g3, h⟩ := h
  obtain ⟨g4, h⟩ := h
  refine gc_getR C BX4 120 8 (by decide) rfl ft_120 vf_X11_317 rfl (isC_of g3 (by decide)) (oG (fR t2 120 r2)) (oG_some g4) dX11_pages_5 ?_
  obtain ⟨g5, h⟩ := h
  refine gc_getI C BX3 98 2 (by decide) rfl ft_98 vf_X11_321 rfl (isC_of g5 (by decide)) dX11_pages_8 ?_
  exact gc_iret C E lt2 dX11_pages_11 ⟨_, rfl, h⟩
def w_X11_pageLines (B : Nat × Nat) (a0 : Nat) (a1 : Int32) (a2 : Int32) (t : CS) (Q : Int32 → CS → Prop) (X : String → CS → Prop) : Prop := (kdC t a0 = 14) ∧ w_X11_drawnPart B a0 a1 t (fun r2 t2 => (kdC t2 r2 = 7) ∧ ((fR t2 120 r2) ≠ none) ∧ (kdC t2 (oG (fR t2 120 r2)) = 6) ∧ w_X11_requireIndex B a2 (fI t2 98 (oG (fR t2 120 r2))) t2 (fun t6 => (vp_in a2 (cLN 96)) ∧ Q (fA t6 96 (oG (fR t2 120 r2)) (Int32.toNatClampNeg a2)) t6) X) X
set_option maxRecDepth 20000 in
set_option maxHeartbeats 2000000 in
theorem c_X11_pageLines (l : Launch) (D : va_G) (K : Nat → ClassId) (E0 : Nat) (B : Nat × Nat) (A0 : Nat → Prop) (a0 : Nat) (a1 : Int32) (a2 : Int32) (t : CS) (Q : Int32 → CS → Prop) (X : String → CS → Prop) (h : w_X11_pageLines B a0 a1 a2 t Q X) : MetC l yX11_pageLines cX11_pageLines 4 (some .int) 12 [.ref a0, .int a1, .int a2] (qI Q) X D K E0 B A0 t := by
  unfold w_X11_pageLines at h
  refine gc_start (by decide) rfl (Nat.le_of_ble_eq_true rfl) (fun p e s m args below meth c C E => ?_)
  refine gc_aloadn C 0 0 dX11_pageLines_0 rfl rfl ?_
  refine gc_iloadn C 1 1 dX11_pageLines_1 rfl rfl ?_
  obtain ⟨g1, h⟩ := h
  refine gc_callV C BX11 (y := yX11_drawnPart) (as := [.int a1]) rfl (by decide) (by decide) (c_X11_drawnPart l D K E0 B A0 a0 a1 t _ X h) hk_X11_drawnPart rfl vl_X11_280 kc_X11_drawnPart (isC_of g1 (by decide)) dX11_pageLines_2 (Nat.le_of_ble_eq_true rfl) (fun _ _ h => h) (qkR (fun r2 t2 h lt2 => ?_))
  obtain ⟨g3, h⟩ := h
  obtain ⟨g4, h⟩ := h
  refine gc_getR C BX4 120 8 (by decide) rfl ft_120 vf_X11_317 rfl (isC_of g3 (by decide)) (oG (fR t2 120 r2)) (oG_some g4) dX11_pageLines_5 ?_
  refine gc_astoren C 3 [(3, .ref (oG (fR t2 120 r2))), (0, .ref a0), (1, .int a1), (2, .int a2)] dX11_pageLines_8 rfl (by decide) rfl ?_
  refine gc_iloadn C 3 2 dX11_pageLines_9 rfl rfl ?_
  refine gc_aloadn C 0 3 dX11_pageLines_10 rfl rfl ?_
  obtain ⟨g5, h⟩ := h
  refine gc_getI C BX3 98 2 (by decide) rfl ft_98 vf_X11_321 rfl (isC_of g5 (by decide)) dX11_pageLines_11 ?_
  refine gc_callS C (y := yX11_requireIndex) (as := [.int a2, .int (fI t2 98 (oG (fR t2 120 r2)))]) rfl (by decide) (by decide) (c_X11_requireIndex l D K E0 B A0 a2 (fI t2 98 (oG (fR t2 120 r2))) t2 _ X h) hk_X11_requireIndex rfl vl_X11_119 kc_X11_requireIndex dX11_pageLines_14 (Nat.le_of_ble_eq_true rfl) (fun _ _ h => h) (qkV (fun t6 h lt6 => ?_))
  refine gc_aloadn C 0 3 dX11_pageLines_17 rfl rfl ?_
  refine gc_getE C BX3 96 0 (by decide) rfl fe_96 vf_X11_326 rfl (kdLe.k lt6 g5 (by decide) (by decide)) dX11_pageLines_18 ?_
  refine gc_iloadn C 3 2 dX11_pageLines_21 rfl rfl ?_
  obtain ⟨g7, h⟩ := h
  refine gc_iald C (ci := 6) (k0 := 0) 96 (by decide) (by decide) (by decide) rfl ft_96 (by decide) (kdLe.k lt6 g5 (by decide) (by decide)) g7 dX11_pageLines_22 ?_
  exact gc_iret C E (kdLe.tr lt2 lt6) dX11_pageLines_23 ⟨_, rfl, h⟩
def w_X4_lineWithBar_L10 (a0 : Nat) (a1 : Int32) (t : CS) (Q : Int32 → CS → Prop) (K10 : Int32 → Prop) (z10 : Int32) : Prop := ((z10 ≤ 0) → Q 0 t) ∧ (¬ (z10 ≤ 0) → (d_X4_firstBarOfLine a0 z10 t) ∧ ((a1 < (v_X4_firstBarOfLine a0 z10 t)) → K10 (z10 + (-1))) ∧ (¬ (a1 < (v_X4_firstBarOfLine a0 z10 t)) → Q z10 t))
def w_X4_lineWithBar (B : Nat × Nat) (a0 : Nat) (a1 : Int32) (t : CS) (Q : Int32 → CS → Prop) (X : String → CS → Prop) : Prop := (kdC t a0 = 7) ∧ ((fR t 119 a0) ≠ none) ∧ (kdC t (oG (fR t 119 a0)) = 4) ∧ ∀ x4 : Int32, x4 = ((fI t 65 (oG (fR t 119 a0))) - 1) → ∃ n, lp (w_X4_lineWithBar_L10 a0 a1 t Q) n x4
set_option maxRecDepth 20000 in
set_option maxHeartbeats 2000000 in
theorem c_X4_lineWithBar (l : Launch) (D : va_G) (K : Nat → ClassId) (E0 : Nat) (B : Nat × Nat) (A0 : Nat → Prop) (a0 : Nat) (a1 : Int32) (t : CS) (Q : Int32 → CS → Prop) (X : String → CS → Prop) (h : w_X4_lineWithBar B a0 a1 t Q X) : MetC l yX4_lineWithBar cX4_lineWithBar 3 (some .int) 1 [.ref a0, .int a1] (qI Q) X D K E0 B A0 t := by
  unfold w_X4_lineWithBar at h
  refine gc_start (by decide) rfl (Nat.le_of_ble_eq_true rfl) (fun p e s m args below meth c C E => ?_)
  refine gc_aloadn C 0 0 dX4_lineWithBar_0 rfl rfl ?_
  obtain ⟨g1, h⟩ := h
  obtain ⟨g2, h⟩ := h
  refine gc_getR C BX4 119 7 (by decide) rfl ft_119 vf_X4_30 rfl (isC_of g1 (by decide)) (oG (fR t 119 a0)) (oG_some g2) dX4_lineWithBar_1 ?_
  obtain ⟨g3, h⟩ := h
  refine gc_getI C BX1 65 1 (by decide) rfl ft_65 vf_X4_103 rfl (isC_of g3 (by decide)) dX4_lineWithBar_4 ?_
  refine gc_iconst C 1 dX4_lineWithBar_7 (by decide) ?_
  refine gc_isub C dX4_lineWithBar_8 ?_
  refine gc_nameI (fun x4 ex4 => ?_)
  have h := h x4 ex4
  refine gc_istoren C 2 [(2, .int x4), (0, .ref a0), (1, .int a1)] dX4_lineWithBar_9 rfl (by decide) rfl ?_
  refine gc_sub [1, 2, 0] rfl ?_
  obtain ⟨n10, h⟩ := h
  have k10 : ∀ (n10 : Nat) (z10 : Int32), lp (w_X4_lineWithBar_L10 a0 a1 t Q) n10 z10 → GC p l e (rmC 1 B t) s m args below meth c 3 D K E0 B A0 (gc_Q below D K E0 A0 (qI Q) X args s t (rmC 1 B t)) t 10 [(0, .ref a0), (1, .int a1), (2, .int z10)] [] := by
    intro n10
    induction n10 with
    | zero => intro z10 h; exact h.elim
    | succ n10 ih10 =>
      intro z10 h
      have h : w_X4_lineWithBar_L10 a0 a1 t Q (lp (w_X4_lineWithBar_L10 a0 a1 t Q) n10) z10 := h
      unfold w_X4_lineWithBar_L10 at h
      refine gc_iloadn C 2 2 dX4_lineWithBar_10 rfl rfl ?_
      refine gc_if_le C 31 dX4_lineWithBar_11 (by decide) (fun c11_1 => ?_) (fun c11_1 => ?_)
      · have h := h.1 c11_1
        refine gc_iconst C 0 dX4_lineWithBar_31 (by decide) ?_
        exact gc_iret C E (kdLe.rf _) dX4_lineWithBar_32 ⟨_, rfl, h⟩
      · have h := h.2 c11_1
        refine gc_aloadn C 0 0 dX4_lineWithBar_14 rfl rfl ?_
        refine gc_iloadn C 2 2 dX4_lineWithBar_15 rfl rfl ?_
        obtain ⟨g5, h⟩ := h
        refine gc_callV C BX4 (y := yX4_firstBarOfLine) (as := [.int z10]) rfl (by decide) (by decide) (c_X4_firstBarOfLine l D K E0 B A0 a0 z10 t g5) hk_X4_firstBarOfLine rfl vl_X4_106 kc_X4_firstBarOfLine (isC_of g1 (by decide)) dX4_lineWithBar_16 (Nat.le_of_ble_eq_true rfl) (fun _ _ h => h.elim) (qkIP ?_)
        refine gc_iloadn C 1 1 dX4_lineWithBar_19 rfl rfl ?_
        refine gc_icmp_gt C 25 dX4_lineWithBar_20 (by decide) (fun c20_2 => ?_) (fun c20_2 => ?_)
        · have h := h.1 c20_2
          refine gc_iinc C 2 (z10 + (-1)) [(2, .int (z10 + (-1))), (0, .ref a0), (1, .int a1)] dX4_lineWithBar_25 rfl rfl (by decide) rfl ?_
          refine gc_goto C 10 dX4_lineWithBar_28 (by decide) ?_
          refine gc_sub [1, 2, 0] rfl ?_
          have h9 := ih10 (z10 + (-1)) h
          exact h9
        · have h := h.2 c20_2
          refine gc_iloadn C 2 2 dX4_lineWithBar_23 rfl rfl ?_
          exact gc_iret C E (kdLe.rf _) dX4_lineWithBar_24 ⟨_, rfl, h⟩
  exact k10 n10 x4 h
def w_X3_pageWithLine_L2 (a0 : Nat) (a1 : Int32) (t : CS) (Q : Int32 → CS → Prop) (K2 : Int32 → Prop) (z2 : Int32) : Prop := (kdC t a0 = 6) ∧ (((fI t 98 a0) ≤ z2) → Q (-1) t) ∧ (¬ ((fI t 98 a0) ≤ z2) → (vp_in z2 (cLN 97)) ∧ (vp_in z2 (cLN 96)) ∧ ((((fA t 97 a0 (Int32.toNatClampNeg z2)) + (fA t 96 a0 (Int32.toNatClampNeg z2))) ≤ a1) → K2 (z2 + 1)) ∧ (¬ (((fA t 97 a0 (Int32.toNatClampNeg z2)) + (fA t 96 a0 (Int32.toNatClampNeg z2))) ≤ a1) → Q z2 t))
def w_X3_pageWithLine (B : Nat × Nat) (a0 : Nat) (a1 : Int32) (t : CS) (Q : Int32 → CS → Prop) (X : String → CS → Prop) : Prop := ∃ n, lp (w_X3_pageWithLine_L2 a0 a1 t Q) n 0
set_option maxRecDepth 20000 in
set_option maxHeartbeats 2000000 in
theorem c_X3_pageWithLine (l : Launch) (D : va_G) (K : Nat → ClassId) (E0 : Nat) (B : Nat × Nat) (A0 : Nat → Prop) (a0 : Nat) (a1 : Int32) (t : CS) (Q : Int32 → CS → Prop) (X : String → CS → Prop) (h : w_X3_pageWithLine B a0 a1 t Q X) : MetC l yX3_pageWithLine cX3_pageWithLine 3 (some .int) 0 [.ref a0, .int a1] (qI Q) X D K E0 B A0 t := by
  unfold w_X3_pageWithLine at h
  refine gc_start (by decide) rfl (Nat.le_of_ble_eq_true rfl) (fun p e s m args below meth c C E => ?_)
  refine gc_iconst C 0 dX3_pageWithLine_0 (by decide) ?_
  refine gc_istoren C 2 [(2, .int 0), (0, .ref a0), (1, .int a1)] dX3_pageWithLine_1 rfl (by decide) rfl ?_
  refine gc_sub [1, 2, 0] rfl ?_
  obtain ⟨n2, h⟩ := h
  have k2 : ∀ (n2 : Nat) (z2 : Int32), lp (w_X3_pageWithLine_L2 a0 a1 t Q) n2 z2 → GC p l e (rmC 0 B t) s m args below meth c 3 D K E0 B A0 (gc_Q below D K E0 A0 (qI Q) X args s t (rmC 0 B t)) t 2 [(0, .ref a0), (1, .int a1), (2, .int z2)] [] := by
    intro n2
    induction n2 with
    | zero => intro z2 h; exact h.elim
    | succ n2 ih2 =>
      intro z2 h
      have h : w_X3_pageWithLine_L2 a0 a1 t Q (lp (w_X3_pageWithLine_L2 a0 a1 t Q) n2) z2 := h
      unfold w_X3_pageWithLine_L2 at h
      refine gc_iloadn C 2 2 dX3_pageWithLine_2 rfl rfl ?_
      refine gc_aloadn C 0 0 dX3_pageWithLine_3 rfl rfl ?_
      obtain ⟨g1, h⟩ := h
      refine gc_getI C BX3 98 2 (by decide) rfl ft_98 vf_X3_69 rfl (isC_of g1 (by decide)) dX3_pageWithLine_4 ?_
      refine gc_icmp_ge C 35 dX3_pageWithLine_7 (by decide) (fun c7_1 => ?_) (fun c7_1 => ?_)
      · have h := h.1 c7_1
        refine gc_iconst C (-1) dX3_pageWithLine_35 (by decide) ?_
        exact gc_iret C E (kdLe.rf _) dX3_pageWithLine_36 ⟨_, rfl, h⟩
      · have h := h.2 c7_1
        refine gc_iloadn C 1 1 dX3_pageWithLine_10 rfl rfl ?_
        refine gc_aloadn C 0 0 dX3_pageWithLine_11 rfl rfl ?_
        refine gc_getE C BX3 97 1 (by decide) rfl fe_97 vf_X3_15 rfl g1 dX3_pageWithLine_12 ?_
        refine gc_iloadn C 2 2 dX3_pageWithLine_15 rfl rfl ?_
        obtain ⟨g2, h⟩ := h
        refine gc_iald C (ci := 6) (k0 := 1) 97 (by decide) (by decide) (by decide) rfl ft_97 (by decide) g1 g2 dX3_pageWithLine_16 ?_
        refine gc_aloadn C 0 0 dX3_pageWithLine_17 rfl rfl ?_
        refine gc_getE C BX3 96 0 (by decide) rfl fe_96 vf_X3_11 rfl g1 dX3_pageWithLine_18 ?_
        refine gc_iloadn C 2 2 dX3_pageWithLine_21 rfl rfl ?_
        obtain ⟨g3, h⟩ := h
        refine gc_iald C (ci := 6) (k0 := 0) 96 (by decide) (by decide) (by decide) rfl ft_96 (by decide) g1 g3 dX3_pageWithLine_22 ?_
        refine gc_iadd C dX3_pageWithLine_23 ?_
        refine gc_icmp_ge C 29 dX3_pageWithLine_24 (by decide) (fun c24_2 => ?_) (fun c24_2 => ?_)
        · have h := h.1 c24_2
          refine gc_iinc C 2 (z2 + 1) [(2, .int (z2 + 1)), (0, .ref a0), (1, .int a1)] dX3_pageWithLine_29 rfl rfl (by decide) rfl ?_
          refine gc_goto C 2 dX3_pageWithLine_32 (by decide) ?_
          refine gc_sub [1, 2, 0] rfl ?_
          have h9 := ih2 (z2 + 1) h
          exact h9
        · have h := h.2 c24_2
          refine gc_iloadn C 2 2 dX3_pageWithLine_27 rfl rfl ?_
          exact gc_iret C E (kdLe.rf _) dX3_pageWithLine_28 ⟨_, rfl, h⟩
  exact k2 n2 0 h
def w_X11_pageOf (B : Nat × Nat) (a0 : Nat) (a1 : Int32) (a2 : Int32) (t : CS) (Q : Int32 → CS → Prop) (X : String → CS → Prop) : Prop := (kdC t a0 = 14) ∧ w_X11_drawnPart B a0 a1 t (fun r2 t2 => w_X11_requireBar B a0 a2 t2 (fun t3 => (kdC t3 r2 = 7) ∧ ((fR t3 120 r2) ≠ none) ∧ w_X4_lineWithBar B r2 a2 t3 (fun r6 t6 => (kdC t6 (oG (fR t3 120 r2)) = 6) ∧ w_X3_pageWithLine B (oG (fR t3 120 r2)) r6 t6 (fun r8 t8 => Q r8 t8) X) X) X) X
set_option maxRecDepth 20000 in
set_option maxHeartbeats 2000000 in
theorem c_X11_pageOf (l : Launch) (D : va_G) (K : Nat → ClassId) (E0 : Nat) (B : Nat × Nat) (A0 : Nat → Prop) (a0 : Nat) (a1 : Int32) (a2 : Int32) (t : CS) (Q : Int32 → CS → Prop) (X : String → CS → Prop) (h : w_X11_pageOf B a0 a1 a2 t Q X) : MetC l yX11_pageOf cX11_pageOf 4 (some .int) 12 [.ref a0, .int a1, .int a2] (qI Q) X D K E0 B A0 t := by
  unfold w_X11_pageOf at h
  refine gc_start (by decide) rfl (Nat.le_of_ble_eq_true rfl) (fun p e s m args below meth c C E => ?_)
  refine gc_aloadn C 0 0 dX11_pageOf_0 rfl rfl ?_
  refine gc_iloadn C 1 1 dX11_pageOf_1 rfl rfl ?_
  obtain ⟨g1, h⟩ := h
  refine gc_callV C BX11 (y := yX11_drawnPart) (as := [.int a1]) rfl (by decide) (by decide) (c_X11_drawnPart l D K E0 B A0 a0 a1 t _ X h) hk_X11_drawnPart rfl vl_X11_280 kc_X11_drawnPart (isC_of g1 (by decide)) dX11_pageOf_2 (Nat.le_of_ble_eq_true rfl) (fun _ _ h => h) (qkR (fun r2 t2 h lt2 => ?_))
  refine gc_astoren C 3 [(3, .ref r2), (0, .ref a0), (1, .int a1), (2, .int a2)] dX11_pageOf_5 rfl (by decide) rfl ?_
  refine gc_aloadn C 1 0 dX11_pageOf_6 rfl rfl ?_
  refine gc_iloadn C 3 2 dX11_pageOf_7 rfl rfl ?_
  refine gc_callV C BX11 (y := yX11_requireBar) (as := [.int a2]) rfl (by decide) (by decide) (c_X11_requireBar l D K E0 B A0 a0 a2 t2 _ X h) hk_X11_requireBar rfl vl_X11_62 kc_X11_requireBar (isC_of (kdLe.k lt2 g1 (by decide) (by decide)) (by decide)) dX11_pageOf_8 (Nat.le_of_ble_eq_true rfl) (fun _ _ h => h) (qkV (fun t3 h lt3 => ?_))
  refine gc_aloadn C 0 3 dX11_pageOf_11 rfl rfl ?_
  obtain ⟨g4, h⟩ := h
  obtain ⟨g5, h⟩ := h
  refine gc_getR C BX4 120 8 (by decide) rfl ft_120 vf_X11_317 rfl (isC_of g4 (by decide)) (oG (fR t3 120 r2)) (oG_some g5) dX11_pageOf_12 ?_
  refine gc_aloadn C 0 3 dX11_pageOf_15 rfl rfl ?_
  refine gc_iloadn C 3 2 dX11_pageOf_16 rfl rfl ?_
  refine gc_callV C BX4 (y := yX4_lineWithBar) (as := [.int a2]) rfl (by decide) (by decide) (c_X4_lineWithBar l D K E0 B A0 r2 a2 t3 _ X h) hk_X4_lineWithBar rfl vl_X11_329 kc_X4_lineWithBar (isC_of g4 (by decide)) dX11_pageOf_17 (Nat.le_of_ble_eq_true rfl) (fun _ _ h => h) (qkI (fun r6 t6 h lt6 => ?_))
  obtain ⟨g7, h⟩ := h
  refine gc_callV C BX3 (y := yX3_pageWithLine) (as := [.int r6]) rfl (by decide) (by decide) (c_X3_pageWithLine l D K E0 B A0 (oG (fR t3 120 r2)) r6 t6 _ X h) hk_X3_pageWithLine rfl vl_X11_332 kc_X3_pageWithLine (isC_of g7 (by decide)) dX11_pageOf_20 (Nat.le_of_ble_eq_true rfl) (fun _ _ h => h) (qkI (fun r8 t8 h lt8 => ?_))
  exact gc_iret C E (kdLe.tr lt2 (kdLe.tr lt3 (kdLe.tr lt6 lt8))) dX11_pageOf_23 ⟨_, rfl, h⟩
def w_X11_pageTurns (B : Nat × Nat) (a0 : Nat) (a1 : Int32) (t : CS) (Q : Int32 → CS → Prop) (X : String → CS → Prop) : Prop := (kdC t a0 = 14) ∧ w_X11_drawnPart B a0 a1 t (fun r2 t2 => (kdC t2 r2 = 7) ∧ ((fR t2 120 r2) ≠ none) ∧ (kdC t2 (oG (fR t2 120 r2)) = 6) ∧ Q (fI t2 100 (oG (fR t2 120 r2))) t2) X
set_option maxRecDepth 20000 in
set_option maxHeartbeats 2000000 in
theorem c_X11_pageTurns (l : Launch) (D : va_G) (K : Nat → ClassId) (E0 : Nat) (B : Nat × Nat) (A0 : Nat → Prop) (a0 : Nat) (a1 : Int32) (t : CS) (Q : Int32 → CS → Prop) (X : String → CS → Prop) (h : w_X11_pageTurns B a0 a1 t Q X) : MetC l yX11_pageTurns cX11_pageTurns 2 (some .int) 12 [.ref a0, .int a1] (qI Q) X D K E0 B A0 t := by
  unfold w_X11_pageTurns at h
  refine gc_start (by decide) rfl (Nat.le_of_ble_eq_true rfl) (fun p e s m args below meth c C E => ?_)
  refine gc_aloadn C 0 0 dX11_pageTurns_0 rfl rfl ?_
  refine gc_iloadn C 1 1 dX11_pageTurns_1 rfl rfl ?_
  obtain ⟨g1, h⟩ := h
  refine gc_callV C BX11 (y := yX11_drawnPart) (as := [.int a1]) rfl (by decide) (by decide) (c_X11_drawnPart l D K E0 B A0 a0 a1 t _ X h) hk_X11_drawnPart rfl vl_X11_280 kc_X11_drawnPart (isC_of g1 (by decide)) dX11_pageTurns_2 (Nat.le_of_ble_eq_true rfl) (fun _ _ h => h) (qkR (fun r2 t2 h lt2 => ?_))
  obtain ⟨g3, h⟩ := h
  obtain ⟨g4, h⟩ := h
  refine gc_getR C BX4 120 8 (by decide) rfl ft_120 vf_X11_317 rfl (isC_of g3 (by decide)) (oG (fR t2 120 r2)) (oG_some g4) dX11_pageTurns_5 ?_
  obtain ⟨g5, h⟩ := h
  refine gc_getI C BX3 100 4 (by decide) rfl ft_100 vf_X11_335 rfl (isC_of g5 (by decide)) dX11_pageTurns_8 ?_
  exact gc_iret C E lt2 dX11_pageTurns_11 ⟨_, rfl, h⟩
def w_X11_turnBar (B : Nat × Nat) (a0 : Nat) (a1 : Int32) (a2 : Int32) (t : CS) (Q : Int32 → CS → Prop) (X : String → CS → Prop) : Prop := (kdC t a0 = 14) ∧ w_X11_drawnPart B a0 a1 t (fun r2 t2 => (kdC t2 r2 = 7) ∧ ((fR t2 120 r2) ≠ none) ∧ (kdC t2 (oG (fR t2 120 r2)) = 6) ∧ w_X11_requireIndex B a2 (fI t2 100 (oG (fR t2 120 r2))) t2 (fun t6 => (vp_in a2 (cLN 99)) ∧ (vp_in (fA t6 99 (oG (fR t2 120 r2)) (Int32.toNatClampNeg a2)) (cLN 101)) ∧ Q (fA t6 101 (oG (fR t2 120 r2)) (Int32.toNatClampNeg (fA t6 99 (oG (fR t2 120 r2)) (Int32.toNatClampNeg a2)))) t6) X) X
set_option maxRecDepth 20000 in
set_option maxHeartbeats 2000000 in
theorem c_X11_turnBar (l : Launch) (D : va_G) (K : Nat → ClassId) (E0 : Nat) (B : Nat × Nat) (A0 : Nat → Prop) (a0 : Nat) (a1 : Int32) (a2 : Int32) (t : CS) (Q : Int32 → CS → Prop) (X : String → CS → Prop) (h : w_X11_turnBar B a0 a1 a2 t Q X) : MetC l yX11_turnBar cX11_turnBar 4 (some .int) 12 [.ref a0, .int a1, .int a2] (qI Q) X D K E0 B A0 t := by
  unfold w_X11_turnBar at h
  refine gc_start (by decide) rfl (Nat.le_of_ble_eq_true rfl) (fun p e s m args below meth c C E => ?_)
  refine gc_aloadn C 0 0 dX11_turnBar_0 rfl rfl ?_
  refine gc_iloadn C 1 1 dX11_turnBar_1 rfl rfl ?_
  obtain ⟨g1, h⟩ := h
  refine gc_callV C BX11 (y := yX11_drawnPart) (as := [.int a1]) rfl (by decide) (by decide) (c_X11_drawnPart l D K E0 B A0 a0 a1 t _ X h) hk_X11_drawnPart rfl vl_X11_280 kc_X11_drawnPart (isC_of g1 (by decide)) dX11_turnBar_2 (Nat.le_of_ble_eq_true rfl) (fun _ _ h => h) (qkR (fun r2 t2 h lt2 => ?_))
  obtain ⟨g3, h⟩ := h
  obtain ⟨g4, h⟩ := h
  refine gc_getR C BX4 120 8 (by decide) rfl ft_120 vf_X11_317 rfl (isC_of g3 (by decide)) (oG (fR t2 120 r2)) (oG_some g4) dX11_turnBar_5 ?_
  refine gc_astoren C 3 [(3, .ref (oG (fR t2 120 r2))), (0, .ref a0), (1, .int a1), (2, .int a2)] dX11_turnBar_8 rfl (by decide) rfl ?_
  refine gc_iloadn C 3 2 dX11_turnBar_9 rfl rfl ?_
  refine gc_aloadn C 0 3 dX11_turnBar_10 rfl rfl ?_
  obtain ⟨g5, h⟩ := h
  refine gc_getI C BX3 100 4 (by decide) rfl ft_100 vf_X11_335 rfl (isC_of g5 (by decide)) dX11_turnBar_11 ?_
  refine gc_callS C (y := yX11_requireIndex) (as := [.int a2, .int (fI t2 100 (oG (fR t2 120 r2)))]) rfl (by decide) (by decide) (c_X11_requireIndex l D K E0 B A0 a2 (fI t2 100 (oG (fR t2 120 r2))) t2 _ X h) hk_X11_requireIndex rfl vl_X11_119 kc_X11_requireIndex dX11_turnBar_14 (Nat.le_of_ble_eq_true rfl) (fun _ _ h => h) (qkV (fun t6 h lt6 => ?_))
  refine gc_aloadn C 0 3 dX11_turnBar_17 rfl rfl ?_
  refine gc_getE C BX3 101 5 (by decide) rfl fe_101 vf_X11_338 rfl (kdLe.k lt6 g5 (by decide) (by decide)) dX11_turnBar_18 ?_
  refine gc_aloadn C 0 3 dX11_turnBar_21 rfl rfl ?_
  refine gc_getE C BX3 99 3 (by decide) rfl fe_99 vf_X11_341 rfl (kdLe.k lt6 g5 (by decide) (by decide)) dX11_turnBar_22 ?_
  refine gc_iloadn C 3 2 dX11_turnBar_25 rfl rfl ?_
  obtain ⟨g7, h⟩ := h
  refine gc_iald C (ci := 6) (k0 := 3) 99 (by decide) (by decide) (by decide) rfl ft_99 (by decide) (kdLe.k lt6 g5 (by decide) (by decide)) g7 dX11_turnBar_26 ?_
  obtain ⟨g8, h⟩ := h
  refine gc_iald C (ci := 6) (k0 := 5) 101 (by decide) (by decide) (by decide) rfl ft_101 (by decide) (kdLe.k lt6 g5 (by decide) (by decide)) g8 dX11_turnBar_27 ?_
  exact gc_iret C E (kdLe.tr lt2 lt6) dX11_turnBar_28 ⟨_, rfl, h⟩
def w_X11_turnTime (B : Nat × Nat) (a0 : Nat) (a1 : Int32) (a2 : Int32) (t : CS) (Q : Int32 → CS → Prop) (X : String → CS → Prop) : Prop := (kdC t a0 = 14) ∧ w_X11_drawnPart B a0 a1 t (fun r2 t2 => (kdC t2 r2 = 7) ∧ ((fR t2 120 r2) ≠ none) ∧ (kdC t2 (oG (fR t2 120 r2)) = 6) ∧ w_X11_requireIndex B a2 (fI t2 100 (oG (fR t2 120 r2))) t2 (fun t6 => (vp_in a2 (cLN 99)) ∧ (vp_in (fA t6 99 (oG (fR t2 120 r2)) (Int32.toNatClampNeg a2)) (cLN 102)) ∧ Q (fA t6 102 (oG (fR t2 120 r2)) (Int32.toNatClampNeg (fA t6 99 (oG (fR t2 120 r2)) (Int32.toNatClampNeg a2)))) t6) X) X
set_option maxRecDepth 20000 in
set_option maxHeartbeats 2000000 in
theorem c_X11_turnTime (l : Launch) (D : va_G) (K : Nat → ClassId) (E0 : Nat) (B : Nat × Nat) (A0 : Nat → Prop) (a0 : Nat) (a1 : Int32) (a2 : Int32) (t : CS) (Q : Int32 → CS → Prop) (X : String → CS → Prop) (h : w_X11_turnTime B a0 a1 a2 t Q X) : MetC l yX11_turnTime cX11_turnTime 4 (some .int) 12 [.ref a0, .int a1, .int a2] (qI Q) X D K E0 B A0 t := by
  unfold w_X11_turnTime at h
  refine gc_start (by decide) rfl (Nat.le_of_ble_eq_true rfl) (fun p e s m args below meth c C E => ?_)
  refine gc_aloadn C 0 0 dX11_turnTime_0 rfl rfl ?_
  refine gc_iloadn C 1 1 dX11_turnTime_1 rfl rfl ?_
  obtain ⟨g1, h⟩ := h
  refine gc_callV C BX11 (y := yX11_drawnPart) (as := [.int a1]) rfl (by decide) (by decide) (c_X11_drawnPart l D K E0 B A0 a0 a1 t _ X h) hk_X11_drawnPart rfl vl_X11_280 kc_X11_drawnPart (isC_of g1 (by decide)) dX11_turnTime_2 (Nat.le_of_ble_eq_true rfl) (fun _ _ h => h) (qkR (fun r2 t2 h lt2 => ?_))
  obtain ⟨g3, h⟩ := h
  obtain ⟨g4, h⟩ := h
  refine gc_getR C BX4 120 8 (by decide) rfl ft_120 vf_X11_317 rfl (isC_of g3 (by decide)) (oG (fR t2 120 r2)) (oG_some g4) dX11_turnTime_5 ?_
  refine gc_astoren C 3 [(3, .ref (oG (fR t2 120 r2))), (0, .ref a0), (1, .int a1), (2, .int a2)] dX11_turnTime_8 rfl (by decide) rfl ?_
  refine gc_iloadn C 3 2 dX11_turnTime_9 rfl rfl ?_
  refine gc_aloadn C 0 3 dX11_turnTime_10 rfl rfl ?_
  obtain ⟨g5, h⟩ := h
  refine gc_getI C BX3 100 4 (by decide) rfl ft_100 vf_X11_335 rfl (isC_of g5 (by decide)) dX11_turnTime_11 ?_
  refine gc_callS C (y := yX11_requireIndex) (as := [.int a2, .int (fI t2 100 (oG (fR t2 120 r2)))]) rfl (by decide) (by decide) (c_X11_requireIndex l D K E0 B A0 a2 (fI t2 100 (oG (fR t2 120 r2))) t2 _ X h) hk_X11_requireIndex rfl vl_X11_119 kc_X11_requireIndex dX11_turnTime_14 (Nat.le_of_ble_eq_true rfl) (fun _ _ h => h) (qkV (fun t6 h lt6 => ?_))
  refine gc_aloadn C 0 3 dX11_turnTime_17 rfl rfl ?_
  refine gc_getE C BX3 102 6 (by decide) rfl fe_102 vf_X11_344 rfl (kdLe.k lt6 g5 (by decide) (by decide)) dX11_turnTime_18 ?_
  refine gc_aloadn C 0 3 dX11_turnTime_21 rfl rfl ?_
  refine gc_getE C BX3 99 3 (by decide) rfl fe_99 vf_X11_341 rfl (kdLe.k lt6 g5 (by decide) (by decide)) dX11_turnTime_22 ?_
  refine gc_iloadn C 3 2 dX11_turnTime_25 rfl rfl ?_
  obtain ⟨g7, h⟩ := h
  refine gc_iald C (ci := 6) (k0 := 3) 99 (by decide) (by decide) (by decide) rfl ft_99 (by decide) (kdLe.k lt6 g5 (by decide) (by decide)) g7 dX11_turnTime_26 ?_
  obtain ⟨g8, h⟩ := h
  refine gc_iald C (ci := 6) (k0 := 6) 102 (by decide) (by decide) (by decide) rfl ft_102 (by decide) (kdLe.k lt6 g5 (by decide) (by decide)) g8 dX11_turnTime_27 ?_
  exact gc_iret C E (kdLe.tr lt2 lt6) dX11_turnTime_28 ⟨_, rfl, h⟩
def w_X11_turnRest (B : Nat × Nat) (a0 : Nat) (a1 : Int32) (a2 : Int32) (t : CS) (Q : Int32 → CS → Prop) (X : String → CS → Prop) : Prop := (kdC t a0 = 14) ∧ w_X11_drawnPart B a0 a1 t (fun r2 t2 => (kdC t2 r2 = 7) ∧ ((fR t2 120 r2) ≠ none) ∧ (kdC t2 (oG (fR t2 120 r2)) = 6) ∧ w_X11_requireIndex B a2 (fI t2 100 (oG (fR t2 120 r2))) t2 (fun t6 => (vp_in a2 (cLN 99)) ∧ (vp_in (fA t6 99 (oG (fR t2 120 r2)) (Int32.toNatClampNeg a2)) (cLN 103)) ∧ Q (fA t6 103 (oG (fR t2 120 r2)) (Int32.toNatClampNeg (fA t6 99 (oG (fR t2 120 r2)) (Int32.toNatClampNeg a2)))) t6) X) X
set_option maxRecDepth 20000 in
set_option maxHeartbeats 2000000 in
theorem c_X11_turnRest (l : Launch) (D : va_G) (K : Nat → ClassId) (E0 : Nat) (B : Nat × Nat) (A0 : Nat → Prop) (a0 : Nat) (a1 : Int32) (a2 : Int32) (t : CS) (Q : Int32 → CS → Prop) (X : String → CS → Prop) (h : w_X11_turnRest B a0 a1 a2 t Q X) : MetC l yX11_turnRest cX11_turnRest 4 (some .int) 12 [.ref a0, .int a1, .int a2] (qI Q) X D K E0 B A0 t := by
  unfold w_X11_turnRest at h
  refine gc_start (by decide) rfl (Nat.le_of_ble_eq_true rfl) (fun p e s m args below meth c C E => ?_)
  refine gc_aloadn C 0 0 dX11_turnRest_0 rfl rfl ?_
  refine gc_iloadn C 1 1 dX11_turnRest_1 rfl rfl ?_
  obtain ⟨g1, h⟩ := h
  refine gc_callV C BX11 (y := yX11_drawnPart) (as := [.int a1]) rfl (by decide) (by decide) (c_X11_drawnPart l D K E0 B A0 a0 a1 t _ X h) hk_X11_drawnPart rfl vl_X11_280 kc_X11_drawnPart (isC_of g1 (by decide)) dX11_turnRest_2 (Nat.le_of_ble_eq_true rfl) (fun _ _ h => h) (qkR (fun r2 t2 h lt2 => ?_))
  obtain ⟨g3, h⟩ := h
  obtain ⟨g4, h⟩ := h
  refine gc_getR C BX4 120 8 (by decide) rfl ft_120 vf_X11_317 rfl (isC_of g3 (by decide)) (oG (fR t2 120 r2)) (oG_some g4) dX11_turnRest_5 ?_
  refine gc_astoren C 3 [(3, .ref (oG (fR t2 120 r2))), (0, .ref a0), (1, .int a1), (2, .int a2)] dX11_turnRest_8 rfl (by decide) rfl ?_
  refine gc_iloadn C 3 2 dX11_turnRest_9 rfl rfl ?_
  refine gc_aloadn C 0 3 dX11_turnRest_10 rfl rfl ?_
  obtain ⟨g5, h⟩ := h
  refine gc_getI C BX3 100 4 (by decide) rfl ft_100 vf_X11_335 rfl (isC_of g5 (by decide)) dX11_turnRest_11 ?_
  refine gc_callS C (y := yX11_requireIndex) (as := [.int a2, .int (fI t2 100 (oG (fR t2 120 r2)))]) rfl (by decide) (by decide) (c_X11_requireIndex l D K E0 B A0 a2 (fI t2 100 (oG (fR t2 120 r2))) t2 _ X h) hk_X11_requireIndex rfl vl_X11_119 kc_X11_requireIndex dX11_turnRest_14 (Nat.le_of_ble_eq_true rfl) (fun _ _ h => h) (qkV (fun t6 h lt6 => ?_))
  refine gc_aloadn C 0 3 dX11_turnRest_17 rfl rfl ?_
  refine gc_getE C BX3 103 7 (by decide) rfl fe_103 vf_X11_347 rfl (kdLe.k lt6 g5 (by decide) (by decide)) dX11_turnRest_18 ?_
  refine gc_aloadn C 0 3 dX11_turnRest_21 rfl rfl ?_
  refine gc_getE C BX3 99 3 (by decide) rfl fe_99 vf_X11_341 rfl (kdLe.k lt6 g5 (by decide) (by decide)) dX11_turnRest_22 ?_
  refine gc_iloadn C 3 2 dX11_turnRest_25 rfl rfl ?_
  obtain ⟨g7, h⟩ := h
  refine gc_iald C (ci := 6) (k0 := 3) 99 (by decide) (by decide) (by decide) rfl ft_99 (by decide) (kdLe.k lt6 g5 (by decide) (by decide)) g7 dX11_turnRest_26 ?_
  obtain ⟨g8, h⟩ := h
  refine gc_iald C (ci := 6) (k0 := 7) 103 (by decide) (by decide) (by decide) rfl ft_103 (by decide) (kdLe.k lt6 g5 (by decide) (by decide)) g8 dX11_turnRest_27 ?_
  exact gc_iret C E (kdLe.tr lt2 lt6) dX11_turnRest_28 ⟨_, rfl, h⟩
def w_X3_faultyTurns_L4 (a0 : Nat) (t : CS) (Q : Int32 → CS → Prop) (K4 : (Int32 × Int32) → Prop) (z4 : Int32 × Int32) : Prop := (kdC t a0 = 6) ∧ (((fI t 100 a0) ≤ z4.2) → Q z4.1 t) ∧ (¬ ((fI t 100 a0) ≤ z4.2) → (vp_in z4.2 (cLN 99)) ∧ (vp_in (fA t 99 a0 (Int32.toNatClampNeg z4.2)) (cLN 104)) ∧ ∀ x4 : Int32, x4 = (if ¬ ((fA t 104 a0 (Int32.toNatClampNeg (fA t 99 a0 (Int32.toNatClampNeg z4.2)))) ≤ 0) then 1 else 0) → ∀ x5 : Int32, x5 = (z4.1 + x4) → K4 (x5, (z4.2 + 1)))
def w_X3_faultyTurns (B : Nat × Nat) (a0 : Nat) (t : CS) (Q : Int32 → CS → Prop) (X : String → CS → Prop) : Prop := ∃ n, lp (w_X3_faultyTurns_L4 a0 t Q) n (0, 0)
set_option maxRecDepth 20000 in
set_option maxHeartbeats 2000000 in
theorem c_X3_faultyTurns (l : Launch) (D : va_G) (K : Nat → ClassId) (E0 : Nat) (B : Nat × Nat) (A0 : Nat → Prop) (a0 : Nat) (t : CS) (Q : Int32 → CS → Prop) (X : String → CS → Prop) (h : w_X3_faultyTurns B a0 t Q X) : MetC l yX3_faultyTurns cX3_faultyTurns 3 (some .int) 0 [.ref a0] (qI Q) X D K E0 B A0 t := by
  unfold w_X3_faultyTurns at h
  refine gc_start (by decide) rfl (Nat.le_of_ble_eq_true rfl) (fun p e s m args below meth c C E => ?_)
  refine gc_iconst C 0 dX3_faultyTurns_0 (by decide) ?_
  refine gc_istoren C 1 [(1, .int 0), (0, .ref a0)] dX3_faultyTurns_1 rfl (by decide) rfl ?_
  refine gc_iconst C 0 dX3_faultyTurns_2 (by decide) ?_
  refine gc_istoren C 2 [(2, .int 0), (1, .int 0), (0, .ref a0)] dX3_faultyTurns_3 rfl (by decide) rfl ?_
  refine gc_sub [2, 1, 0] rfl ?_
  obtain ⟨n4, h⟩ := h
  have k4 : ∀ (n4 : Nat) (z4 : Int32 × Int32), lp (w_X3_faultyTurns_L4 a0 t Q) n4 z4 → GC p l e (rmC 0 B t) s m args below meth c 3 D K E0 B A0 (gc_Q below D K E0 A0 (qI Q) X args s t (rmC 0 B t)) t 4 [(0, .ref a0), (1, .int z4.1), (2, .int z4.2)] [] := by
    intro n4
    induction n4 with
    | zero => intro z4 h; exact h.elim
    | succ n4 ih4 =>
      intro z4 h
      have h : w_X3_faultyTurns_L4 a0 t Q (lp (w_X3_faultyTurns_L4 a0 t Q) n4) z4 := h
      unfold w_X3_faultyTurns_L4 at h
      refine gc_iloadn C 2 2 dX3_faultyTurns_4 rfl rfl ?_
      refine gc_aloadn C 0 0 dX3_faultyTurns_5 rfl rfl ?_
      obtain ⟨g1, h⟩ := h
      refine gc_getI C BX3 100 4 (by decide) rfl ft_100 vf_X3_73 rfl (isC_of g1 (by decide)) dX3_faultyTurns_6 ?_
      refine gc_icmp_ge C 40 dX3_faultyTurns_9 (by decide) (fun c9_1 => ?_) (fun c9_1 => ?_)
      · have h := h.1 c9_1
        refine gc_iloadn C 1 1 dX3_faultyTurns_40 rfl rfl ?_
        exact gc_iret C E (kdLe.rf _) dX3_faultyTurns_41 ⟨_, rfl, h⟩
      · have h := h.2 c9_1
        refine gc_iloadn C 1 1 dX3_faultyTurns_12 rfl rfl ?_
        refine gc_aloadn C 0 0 dX3_faultyTurns_13 rfl rfl ?_
        refine gc_getE C BX3 104 8 (by decide) rfl fe_104 vf_X3_30 rfl g1 dX3_faultyTurns_14 ?_
        refine gc_aloadn C 0 0 dX3_faultyTurns_17 rfl rfl ?_
        refine gc_getE C BX3 99 3 (by decide) rfl fe_99 vf_X3_18 rfl g1 dX3_faultyTurns_18 ?_
        refine gc_iloadn C 2 2 dX3_faultyTurns_21 rfl rfl ?_
        obtain ⟨g2, h⟩ := h
        refine gc_iald C (ci := 6) (k0 := 3) 99 (by decide) (by decide) (by decide) rfl ft_99 (by decide) g1 g2 dX3_faultyTurns_22 ?_
        obtain ⟨g3, h⟩ := h
        refine gc_iald C (ci := 6) (k0 := 8) 104 (by decide) (by decide) (by decide) rfl ft_104 (by decide) g1 g3 dX3_faultyTurns_23 ?_
        have k32 : ∀ x4 : Int32, x4 = (if ¬ ((fA t 104 a0 (Int32.toNatClampNeg (fA t 99 a0 (Int32.toNatClampNeg z4.2)))) ≤ 0) then 1 else 0) → GC p l e (rmC 0 B t) s m args below meth c 3 D K E0 B A0 (gc_Q below D K E0 A0 (qI Q) X args s t (rmC 0 B t)) t 32 [(0, .ref a0), (2, .int z4.2)] [.int x4, .int z4.1] := by
          intro x4 ex4
          have h := h x4 ex4
          refine gc_iadd C dX3_faultyTurns_32 ?_
          refine gc_nameI (fun x5 ex5 => ?_)
          have h := h x5 ex5
          refine gc_istoren C 1 [(1, .int x5), (0, .ref a0), (2, .int z4.2)] dX3_faultyTurns_33 rfl (by decide) rfl ?_
          refine gc_iinc C 2 (z4.2 + 1) [(2, .int (z4.2 + 1)), (1, .int x5), (0, .ref a0)] dX3_faultyTurns_34 rfl rfl (by decide) rfl ?_
          refine gc_goto C 4 dX3_faultyTurns_37 (by decide) ?_
          refine gc_sub [2, 1, 0] rfl ?_
          have h9 := ih4 (x5, (z4.2 + 1)) h
          exact h9
        refine gc_if_le C 31 dX3_faultyTurns_24 (by decide) (fun c24_2 => ?_) (fun c24_2 => ?_)
        · refine gc_iconst C 0 dX3_faultyTurns_31 (by decide) ?_
          refine gc_sub [0, 2] rfl ?_
          exact k32 _ ((if_neg (fun q0 => q0 c24_2)).symm)
        · refine gc_iconst C 1 dX3_faultyTurns_27 (by decide) ?_
          refine gc_goto C 32 dX3_faultyTurns_28 (by decide) ?_
          refine gc_sub [0, 2] rfl ?_
          exact k32 _ ((if_pos c24_2).symm)
  exact k4 n4 (0, 0) h
def w_X11_badTurns (B : Nat × Nat) (a0 : Nat) (a1 : Int32) (t : CS) (Q : Int32 → CS → Prop) (X : String → CS → Prop) : Prop := (kdC t a0 = 14) ∧ w_X11_drawnPart B a0 a1 t (fun r2 t2 => (kdC t2 r2 = 7) ∧ ((fR t2 120 r2) ≠ none) ∧ (kdC t2 (oG (fR t2 120 r2)) = 6) ∧ w_X3_faultyTurns B (oG (fR t2 120 r2)) t2 (fun r6 t6 => Q r6 t6) X) X
set_option maxRecDepth 20000 in
set_option maxHeartbeats 2000000 in
theorem c_X11_badTurns (l : Launch) (D : va_G) (K : Nat → ClassId) (E0 : Nat) (B : Nat × Nat) (A0 : Nat → Prop) (a0 : Nat) (a1 : Int32) (t : CS) (Q : Int32 → CS → Prop) (X : String → CS → Prop) (h : w_X11_badTurns B a0 a1 t Q X) : MetC l yX11_badTurns cX11_badTurns 2 (some .int) 12 [.ref a0, .int a1] (qI Q) X D K E0 B A0 t := by
  unfold w_X11_badTurns at h
  refine gc_start (by decide) rfl (Nat.le_of_ble_eq_true rfl) (fun p e s m args below meth c C E => ?_)
  refine gc_aloadn C 0 0 dX11_badTurns_0 rfl rfl ?_
  refine gc_iloadn C 1 1 dX11_badTurns_1 rfl rfl ?_
  obtain ⟨g1, h⟩ := h
  refine gc_callV C BX11 (y := yX11_drawnPart) (as := [.int a1]) rfl (by decide) (by decide) (c_X11_drawnPart l D K E0 B A0 a0 a1 t _ X h) hk_X11_drawnPart rfl vl_X11_280 kc_X11_drawnPart (isC_of g1 (by decide)) dX11_badTurns_2 (Nat.le_of_ble_eq_true rfl) (fun _ _ h => h) (qkR (fun r2 t2 h lt2 => ?_))
  obtain ⟨g3, h⟩ := h
  obtain ⟨g4, h⟩ := h
  refine gc_getR C BX4 120 8 (by decide) rfl ft_120 vf_X11_317 rfl (isC_of g3 (by decide)) (oG (fR t2 120 r2)) (oG_some g4) dX11_badTurns_5 ?_
  obtain ⟨g5, h⟩ := h
  refine gc_callV C BX3 (y := yX3_faultyTurns) (as := []) rfl (by decide) (by decide) (c_X3_faultyTurns l D K E0 B A0 (oG (fR t2 120 r2)) t2 _ X h) hk_X3_faultyTurns rfl vl_X11_350 kc_X3_faultyTurns (isC_of g5 (by decide)) dX11_badTurns_8 (Nat.le_of_ble_eq_true rfl) (fun _ _ h => h) (qkI (fun r6 t6 h lt6 => ?_))
  exact gc_iret C E (kdLe.tr lt2 lt6) dX11_badTurns_11 ⟨_, rfl, h⟩
def v_X11_sheetsFor (a1 : Int32) : Int32 := (((a1 + 4) - 1) / 4)
set_option maxRecDepth 20000 in
theorem c_X11_sheetsFor (l : Launch) (D : va_G) (K : Nat → ClassId) (E0 : Nat) (B : Nat × Nat) (A0 : Nat → Prop) (a1 : Int32) (t : CS) : MetC l yX11_sheetsFor cX11_sheetsFor 1 (some .int) 0 [.int a1] (qI (fun r t' => (v_X11_sheetsFor a1) = r ∧ t = t')) (fun _ _ => False) D K E0 B A0 t := by
  refine gc_start (by decide) rfl (Nat.le_of_ble_eq_true rfl) (fun p e s m args below meth c C E => ?_)
  refine gc_iloadn C 0 0 dX11_sheetsFor_0 rfl rfl ?_
  refine gc_iconst C 4 dX11_sheetsFor_1 (by decide) ?_
  refine gc_iadd C dX11_sheetsFor_2 ?_
  refine gc_iconst C 1 dX11_sheetsFor_3 (by decide) ?_
  refine gc_isub C dX11_sheetsFor_4 ?_
  refine gc_iconst C 4 dX11_sheetsFor_5 (by decide) ?_
  refine gc_idiv C dX11_sheetsFor_6 (by decide) ?_
  exact gc_iret C E (kdLe.rf _) dX11_sheetsFor_7 ⟨_, rfl, (rfl), rfl⟩
