/-! THE CLASS, METHOD BY METHOD (3) -/
def w_X11_left (B : Nat × Nat) (a0 : Nat) (a1 : Int32) (a2 : Int32) (t : CS) (Q : Int32 → CS → Prop) (X : String → CS → Prop) : Prop := w_X11_requireVoice B a1 t (fun t1 => (kdC t1 a0 = 14) ∧ w_X11_requireBar B a0 a2 t1 (fun t3 => ((fR t3 224 a0) ≠ none) ∧ (kdC t3 (oG (fR t3 224 a0)) = 12) ∧ (d_X9_ticksLeft (oG (fR t3 224 a0)) a1 a2 t3) ∧ Q (v_X9_ticksLeft (oG (fR t3 224 a0)) a1 a2 t3) t3) X) X
set_option maxRecDepth 20000 in
set_option maxHeartbeats 2000000 in
theorem c_X11_left (l : Launch) (D : va_G) (K : Nat → ClassId) (E0 : Nat) (B : Nat × Nat) (A0 : Nat → Prop) (a0 : Nat) (a1 : Int32) (a2 : Int32) (t : CS) (Q : Int32 → CS → Prop) (X : String → CS → Prop) (h : w_X11_left B a0 a1 a2 t Q X) : MetC l yX11_left cX11_left 3 (some .int) 8 [.ref a0, .int a1, .int a2] (qI Q) X D K E0 B A0 t := by
  unfold w_X11_left at h
  refine gc_start (by decide) rfl (Nat.le_of_ble_eq_true rfl) (fun p e s m args below meth c C E => ?_)
  refine gc_iloadn C 1 1 dX11_left_0 rfl rfl ?_
  refine gc_callS C (y := yX11_requireVoice) (as := [.int a1]) rfl (by decide) (by decide) (c_X11_requireVoice l D K E0 B A0 a1 t _ X h) hk_X11_requireVoice rfl vl_X11_102 kc_X11_requireVoice dX11_left_1 (Nat.le_of_ble_eq_true rfl) (fun _ _ h => h) (qkV (fun t1 h lt1 => ?_))
  refine gc_aloadn C 0 0 dX11_left_4 rfl rfl ?_
  refine gc_iloadn C 2 2 dX11_left_5 rfl rfl ?_
  obtain ⟨g2, h⟩ := h
  refine gc_callV C BX11 (y := yX11_requireBar) (as := [.int a2]) rfl (by decide) (by decide) (c_X11_requireBar l D K E0 B A0 a0 a2 t1 _ X h) hk_X11_requireBar rfl vl_X11_62 kc_X11_requireBar (isC_of g2 (by decide)) dX11_left_6 (Nat.le_of_ble_eq_true rfl) (fun _ _ h => h) (qkV (fun t3 h lt3 => ?_))
  refine gc_aloadn C 0 0 dX11_left_9 rfl rfl ?_
  obtain ⟨g4, h⟩ := h
  refine gc_getR C BX11 224 0 (by decide) rfl ft_224 vf_X11_10 rfl (isC_of (kdLe.k lt3 g2 (by decide) (by decide)) (by decide)) (oG (fR t3 224 a0)) (oG_some g4) dX11_left_10 ?_
  refine gc_iloadn C 1 1 dX11_left_13 rfl rfl ?_
  refine gc_iloadn C 2 2 dX11_left_14 rfl rfl ?_
  obtain ⟨g5, h⟩ := h
  obtain ⟨g6, h⟩ := h
  refine gc_callV C BX9 (y := yX9_ticksLeft) (as := [.int a1, .int a2]) rfl (by decide) (by decide) (c_X9_ticksLeft l D K E0 B A0 (oG (fR t3 224 a0)) a1 a2 t3 g6) hk_X9_ticksLeft rfl vl_X11_122 kc_X9_ticksLeft (isC_of g5 (by decide)) dX11_left_15 (Nat.le_of_ble_eq_true rfl) (fun _ _ h => h.elim) (qkIP ?_)
  exact gc_iret C E (kdLe.tr lt1 lt3) dX11_left_18 ⟨_, rfl, h⟩
def v_X8_isEmpty (a0 : Nat) (t : CS) : Int32 := (if (fL t 176 a0).length = 0 then (1 : Int32) else 0)
def d_X8_isEmpty (a0 : Nat) (t : CS) : Prop := (kdC t a0 = 11) ∧ ((fL t 176 a0).length < 2147483648)
set_option maxRecDepth 20000 in
theorem c_X8_isEmpty (l : Launch) (D : va_G) (K : Nat → ClassId) (E0 : Nat) (B : Nat × Nat) (A0 : Nat → Prop) (a0 : Nat) (t : CS) (h : d_X8_isEmpty a0 t) : MetC l yX8_isEmpty cX8_isEmpty 1 (some .boolean) 3 [.ref a0] (qI (fun r t' => (v_X8_isEmpty a0 t) = r ∧ t = t')) (fun _ _ => False) D K E0 B A0 t := by
  obtain ⟨u1, u2⟩ := h
  refine gc_start (by decide) rfl (Nat.le_of_ble_eq_true rfl) (fun p e s m args below meth c C E => ?_)
  refine gc_aloadn C 0 0 dX8_isEmpty_0 rfl rfl ?_
  refine gc_getE C BX8 176 0 (by decide) rfl fe_176 vf_X8_12 rfl u1 dX8_isEmpty_1 ?_
  refine gc_lsEmpty C (ci := 11) (k0 := 0) 176 (by decide) (by decide) (by decide) rfl ft_176 rfl (by decide) u2 u1 vj_X8_22 dX8_isEmpty_4 (Nat.le_of_ble_eq_true rfl) ?_
  exact gc_zret C E gb_if (kdLe.rf _) dX8_isEmpty_7 ⟨_, rfl, (rfl), rfl⟩
def w_X8_hasWholeTriplets_L4 (a0 : Nat) (t : CS) (Q : Int32 → CS → Prop) (K4 : (Int32 × Int32) → Prop) (z4 : Int32 × Int32) : Prop := (kdC t a0 = 11) ∧ (((nI (fL t 176 a0).length) ≤ z4.2) → ∀ x2 : Int32, x2 = (if (mRem z4.1 6) = 0 then 1 else 0) → (gb x2) ∧ Q x2 t) ∧ (¬ ((nI (fL t 176 a0).length) ≤ z4.2) → (lIn t 176 a0 z4.2) ∧ (kdC t (lG t 176 a0 z4.2) = 3) ∧ ∃ J56 : Int32 → Prop, (∀ x6 : Int32, J56 x6 → (K4 (x6, (z4.2 + 1)))) ∧ ((((fI t 49 (lG t 176 a0 z4.2)) = 2) → ∀ x7 : Int32, x7 = (z4.1 + (fI t 48 (lG t 176 a0 z4.2))) → J56 x7) ∧ (¬ ((fI t 49 (lG t 176 a0 z4.2)) = 2) → (((mRem z4.1 6) = 0) → J56 0) ∧ (¬ ((mRem z4.1 6) = 0) → Q 0 t))))
def w_X8_hasWholeTriplets (B : Nat × Nat) (a0 : Nat) (t : CS) (Q : Int32 → CS → Prop) (X : String → CS → Prop) : Prop := ∃ n, lp (w_X8_hasWholeTriplets_L4 a0 t Q) n (0, 0)
set_option maxRecDepth 20000 in
set_option maxHeartbeats 2000000 in
theorem c_X8_hasWholeTriplets (l : Launch) (D : va_G) (K : Nat → ClassId) (E0 : Nat) (B : Nat × Nat) (A0 : Nat → Prop) (a0 : Nat) (t : CS) (Q : Int32 → CS → Prop) (X : String → CS → Prop) (h : w_X8_hasWholeTriplets B a0 t Q X) : MetC l yX8_hasWholeTriplets cX8_hasWholeTriplets 4 (some .boolean) 3 [.ref a0] (qI Q) X D K E0 B A0 t := by
  unfold w_X8_hasWholeTriplets at h
  refine gc_start (by decide) rfl (Nat.le_of_ble_eq_true rfl) (fun p e s m args below meth c C E => ?_)
  refine gc_iconst C 0 dX8_hasWholeTriplets_0 (by decide) ?_
  refine gc_istoren C 1 [(1, .int 0), (0, .ref a0)] dX8_hasWholeTriplets_1 rfl (by decide) rfl ?_
  refine gc_iconst C 0 dX8_hasWholeTriplets_2 (by decide) ?_
  refine gc_istoren C 2 [(2, .int 0), (1, .int 0), (0, .ref a0)] dX8_hasWholeTriplets_3 rfl (by decide) rfl ?_
  refine gc_sub [2, 1, 0] rfl ?_
  obtain ⟨n4, h⟩ := h
  have k4 : ∀ (n4 : Nat) (z4 : Int32 × Int32), lp (w_X8_hasWholeTriplets_L4 a0 t Q) n4 z4 → GC p l e (rmC 3 B t) s m args below meth c 4 D K E0 B A0 (gc_Q below D K E0 A0 (qI Q) X args s t (rmC 3 B t)) t 4 [(0, .ref a0), (1, .int z4.1), (2, .int z4.2)] [] := by
    intro n4
    induction n4 with
    | zero => intro z4 h; exact h.elim
    | succ n4 ih4 =>
      intro z4 h
      have h : w_X8_hasWholeTriplets_L4 a0 t Q (lp (w_X8_hasWholeTriplets_L4 a0 t Q) n4) z4 := h
      unfold w_X8_hasWholeTriplets_L4 at h
      refine gc_iloadn C 2 2 dX8_hasWholeTriplets_4 rfl rfl ?_
      refine gc_aloadn C 0 0 dX8_hasWholeTriplets_5 rfl rfl ?_
      obtain ⟨g1, h⟩ := h
      refine gc_getE C BX8 176 0 (by decide) rfl fe_176 vf_X8_12 rfl g1 dX8_hasWholeTriplets_6 ?_
      refine gc_lsSize C (ci := 11) (k0 := 0) 176 (by decide) (by decide) (by decide) rfl ft_176 rfl (by decide) g1 vj_X8_18 dX8_hasWholeTriplets_9 (Nat.le_of_ble_eq_true rfl) ?_
      refine gc_icmp_ge C 62 dX8_hasWholeTriplets_12 (by decide) (fun c12_1 => ?_) (fun c12_1 => ?_)
      · have h := h.1 c12_1
        refine gc_iloadn C 1 1 dX8_hasWholeTriplets_62 rfl rfl ?_
        refine gc_bipush C 6 dX8_hasWholeTriplets_63 (by decide) ?_
        refine gc_irem C dX8_hasWholeTriplets_65 (by decide) ?_
        have k74 : ∀ x2 : Int32, x2 = (if (mRem z4.1 6) = 0 then 1 else 0) → GC p l e (rmC 3 B t) s m args below meth c 4 D K E0 B A0 (gc_Q below D K E0 A0 (qI Q) X args s t (rmC 3 B t)) t 74 [] [.int x2] := by
          intro x2 ex2
          have h := h x2 ex2
          obtain ⟨g3, h⟩ := h
          exact gc_zret C E g3 (kdLe.rf _) dX8_hasWholeTriplets_74 ⟨_, rfl, h⟩
        refine gc_if_ne C 73 dX8_hasWholeTriplets_66 (by decide) (fun c66_2 => ?_) (fun c66_2 => ?_)
        · refine gc_iconst C 0 dX8_hasWholeTriplets_73 (by decide) ?_
          refine gc_sub [] rfl ?_
          exact k74 _ ((if_neg c66_2).symm)
        · refine gc_iconst C 1 dX8_hasWholeTriplets_69 (by decide) ?_
          refine gc_goto C 74 dX8_hasWholeTriplets_70 (by decide) ?_
          refine gc_sub [] rfl ?_
          exact k74 _ ((if_pos c66_2).symm)
      · have h := h.2 c12_1
        refine gc_aloadn C 0 0 dX8_hasWholeTriplets_15 rfl rfl ?_
        refine gc_getE C BX8 176 0 (by decide) rfl fe_176 vf_X8_12 rfl g1 dX8_hasWholeTriplets_16 ?_
        refine gc_iloadn C 2 2 dX8_hasWholeTriplets_19 rfl rfl ?_
        obtain ⟨g4, h⟩ := h
        refine gc_lsGet C (ci := 11) (k0 := 0) 176 (by decide) (by decide) (by decide) rfl ft_176 rfl (by decide) g1 g4 vj_X8_26 dX8_hasWholeTriplets_20 (Nat.le_of_ble_eq_true rfl) ?_
        obtain ⟨g5, h⟩ := h
        refine gc_cast C BX0 v_i301 (isC_of g5 (by decide)) dX8_hasWholeTriplets_23 ?_
        refine gc_astoren C 3 [(3, .ref (lG t 176 a0 z4.2)), (0, .ref a0), (1, .int z4.1), (2, .int z4.2)] dX8_hasWholeTriplets_26 rfl (by decide) rfl ?_
        refine gc_aloadn C 0 3 dX8_hasWholeTriplets_27 rfl rfl ?_
        refine gc_getI C BX0 49 1 (by decide) rfl ft_49 vf_X8_44 rfl (isC_of g5 (by decide)) dX8_hasWholeTriplets_28 ?_
        refine gc_iconst C 2 dX8_hasWholeTriplets_31 (by decide) ?_
        obtain ⟨J56, hJ56, h⟩ := h
        have k56 : ∀ x6 : Int32, J56 x6 → GC p l e (rmC 3 B t) s m args below meth c 4 D K E0 B A0 (gc_Q below D K E0 A0 (qI Q) X args s t (rmC 3 B t)) t 56 [(0, .ref a0), (1, .int x6), (2, .int z4.2)] [] := by
          intro x6 h
          have h := hJ56 x6 h
          refine gc_iinc C 2 (z4.2 + 1) [(2, .int (z4.2 + 1)), (0, .ref a0), (1, .int x6)] dX8_hasWholeTriplets_56 rfl rfl (by decide) rfl ?_
          refine gc_goto C 4 dX8_hasWholeTriplets_59 (by decide) ?_
          refine gc_sub [1, 2, 0] rfl ?_
          have h9 := ih4 (x6, (z4.2 + 1)) h
          exact h9
        refine gc_icmp_ne C 45 dX8_hasWholeTriplets_32 (by decide) (fun c32_3 => ?_) (fun c32_3 => ?_)
        · have h := h.2 c32_3
          refine gc_iloadn C 2 1 dX8_hasWholeTriplets_45 rfl rfl ?_
          refine gc_bipush C 6 dX8_hasWholeTriplets_46 (by decide) ?_
          refine gc_irem C dX8_hasWholeTriplets_48 (by decide) ?_
          refine gc_if_eq C 54 dX8_hasWholeTriplets_49 (by decide) (fun c49_4 => ?_) (fun c49_4 => ?_)
          · have h := h.1 c49_4
            refine gc_iconst C 0 dX8_hasWholeTriplets_54 (by decide) ?_
            refine gc_istoren C 1 [(1, .int 0), (3, .ref (lG t 176 a0 z4.2)), (0, .ref a0), (2, .int z4.2)] dX8_hasWholeTriplets_55 rfl (by decide) rfl ?_
            refine gc_sub [2, 0, 3] rfl ?_
            exact k56 0 h
          · have h := h.2 c49_4
            refine gc_iconst C 0 dX8_hasWholeTriplets_52 (by decide) ?_
            exact gc_zret C E (Or.inl rfl) (kdLe.rf _) dX8_hasWholeTriplets_53 ⟨_, rfl, h⟩
        · have h := h.1 c32_3
          refine gc_iloadn C 2 1 dX8_hasWholeTriplets_35 rfl rfl ?_
          refine gc_aloadn C 0 3 dX8_hasWholeTriplets_36 rfl rfl ?_
          refine gc_getI C BX0 48 0 (by decide) rfl ft_48 vf_X8_40 rfl (isC_of g5 (by decide)) dX8_hasWholeTriplets_37 ?_
          refine gc_iadd C dX8_hasWholeTriplets_40 ?_
          refine gc_nameI (fun x7 ex7 => ?_)
          have h := h x7 ex7
          refine gc_istoren C 1 [(1, .int x7), (3, .ref (lG t 176 a0 z4.2)), (0, .ref a0), (2, .int z4.2)] dX8_hasWholeTriplets_41 rfl (by decide) rfl ?_
          refine gc_goto C 56 dX8_hasWholeTriplets_42 (by decide) ?_
          refine gc_sub [2, 0, 3] rfl ?_
          exact k56 x7 h
  exact k4 n4 (0, 0) h
def w_X9_isRightBar (B : Nat × Nat) (a0 : Nat) (a1 : Int32) (a2 : Int32) (t : CS) (Q : Int32 → CS → Prop) (X : String → CS → Prop) : Prop := (kdC t a0 = 12) ∧ (d_X9_row a0 a1 a2 t) ∧ (kdC t (v_X9_row a0 a1 a2 t) = 11) ∧ (d_X8_isEmpty (v_X9_row a0 a1 a2 t) t) ∧ ∃ J35 : Int32 → CS → Prop, (∀ x5 : Int32, ∀ t6 : CS, J35 x5 t6 → ((gb x5) ∧ Q x5 t6)) ∧ ∃ J30 : CS → Prop, (∀ t8 : CS, J30 t8 → (J35 1 t8)) ∧ ((((v_X8_isEmpty (v_X9_row a0 a1 a2 t) t) = 0) → (d_X9_ticksLeft a0 a1 a2 t) ∧ ∃ J34 : CS → Prop, (∀ t10 : CS, J34 t10 → (J35 0 t10)) ∧ ((((v_X9_ticksLeft a0 a1 a2 t) = 0) → w_X8_hasWholeTriplets B (v_X9_row a0 a1 a2 t) t (fun r11 t11 => ((r11 = 0) → J34 t11) ∧ (¬ (r11 = 0) → J30 t11)) X) ∧ (¬ ((v_X9_ticksLeft a0 a1 a2 t) = 0) → J34 t))) ∧ (¬ ((v_X8_isEmpty (v_X9_row a0 a1 a2 t) t) = 0) → J30 t))
set_option maxRecDepth 20000 in
set_option maxHeartbeats 2000000 in
theorem c_X9_isRightBar (l : Launch) (D : va_G) (K : Nat → ClassId) (E0 : Nat) (B : Nat × Nat) (A0 : Nat → Prop) (a0 : Nat) (a1 : Int32) (a2 : Int32) (t : CS) (Q : Int32 → CS → Prop) (X : String → CS → Prop) (h : w_X9_isRightBar B a0 a1 a2 t Q X) : MetC l yX9_isRightBar cX9_isRightBar 4 (some .boolean) 5 [.ref a0, .int a1, .int a2] (qI Q) X D K E0 B A0 t := by
  unfold w_X9_isRightBar at h
  refine gc_start (by decide) rfl (Nat.le_of_ble_eq_true rfl) (fun p e s m args below meth c C E => ?_)
  refine gc_aloadn C 0 0 dX9_isRightBar_0 rfl rfl ?_
  refine gc_iloadn C 1 1 dX9_isRightBar_1 rfl rfl ?_
  refine gc_iloadn C 2 2 dX9_isRightBar_2 rfl rfl ?_
  obtain ⟨g1, h⟩ := h
  obtain ⟨g2, h⟩ := h
  refine gc_callV C BX9 (y := yX9_row) (as := [.int a1, .int a2]) rfl (by decide) (by decide) (c_X9_row l D K E0 B A0 a0 a1 a2 t g2) hk_X9_row rfl vl_X9_66 kc_X9_row (isC_of g1 (by decide)) dX9_isRightBar_3 (Nat.le_of_ble_eq_true rfl) (fun _ _ h => h.elim) (qkRP ?_)
  refine gc_astoren C 3 [(3, .ref (v_X9_row a0 a1 a2 t)), (0, .ref a0), (1, .int a1), (2, .int a2)] dX9_isRightBar_6 rfl (by decide) rfl ?_
  refine gc_aloadn C 0 3 dX9_isRightBar_7 rfl rfl ?_
  obtain ⟨g3, h⟩ := h
  obtain ⟨g4, h⟩ := h
  refine gc_callV C BX8 (y := yX8_isEmpty) (as := []) rfl (by decide) (by decide) (c_X8_isEmpty l D K E0 B A0 (v_X9_row a0 a1 a2 t) t g4) hk_X8_isEmpty rfl vl_X9_74 kc_X8_isEmpty (isC_of g3 (by decide)) dX9_isRightBar_8 (Nat.le_of_ble_eq_true rfl) (fun _ _ h => h.elim) (qkIP ?_)
  obtain ⟨J35, hJ35, h⟩ := h
  have k35 : ∀ x5 : Int32, ∀ t6 : CS, kdLe t t6 → J35 x5 t6 → GC p l e (rmC 5 B t) s m args below meth c 4 D K E0 B A0 (gc_Q below D K E0 A0 (qI Q) X args s t (rmC 5 B t)) t6 35 [] [.int x5] := by
    intro x5 t6 lt6 h
    have h := hJ35 x5 t6 h
    obtain ⟨g7, h⟩ := h
    exact gc_zret C E g7 lt6 dX9_isRightBar_35 ⟨_, rfl, h⟩
  obtain ⟨J30, hJ30, h⟩ := h
  have k30 : ∀ t8 : CS, kdLe t t8 → J30 t8 → GC p l e (rmC 5 B t) s m args below meth c 4 D K E0 B A0 (gc_Q below D K E0 A0 (qI Q) X args s t (rmC 5 B t)) t8 30 [] [] := by
    intro t8 lt8 h
    have h := hJ30 t8 h
    refine gc_iconst C 1 dX9_isRightBar_30 (by decide) ?_
    refine gc_goto C 35 dX9_isRightBar_31 (by decide) ?_
    exact k35 1 t8 lt8 h
  refine gc_if_ne C 30 dX9_isRightBar_11 (by decide) (fun c11_1 => ?_) (fun c11_1 => ?_)
  · have h := h.2 c11_1
    refine gc_sub [] rfl ?_
    exact k30 t (kdLe.rf _) h
  · have h := h.1 c11_1
    refine gc_aloadn C 1 0 dX9_isRightBar_14 rfl rfl ?_
    refine gc_iloadn C 2 1 dX9_isRightBar_15 rfl rfl ?_
    refine gc_iloadn C 3 2 dX9_isRightBar_16 rfl rfl ?_
    obtain ⟨g9, h⟩ := h
    refine gc_callV C BX9 (y := yX9_ticksLeft) (as := [.int a1, .int a2]) rfl (by decide) (by decide) (c_X9_ticksLeft l D K E0 B A0 a0 a1 a2 t g9) hk_X9_ticksLeft rfl vl_X9_78 kc_X9_ticksLeft (isC_of g1 (by decide)) dX9_isRightBar_17 (Nat.le_of_ble_eq_true rfl) (fun _ _ h => h.elim) (qkIP ?_)
    obtain ⟨J34, hJ34, h⟩ := h
    have k34 : ∀ t10 : CS, kdLe t t10 → J34 t10 → GC p l e (rmC 5 B t) s m args below meth c 4 D K E0 B A0 (gc_Q below D K E0 A0 (qI Q) X args s t (rmC 5 B t)) t10 34 [] [] := by
      intro t10 lt10 h
      have h := hJ34 t10 h
      refine gc_iconst C 0 dX9_isRightBar_34 (by decide) ?_
      exact k35 0 t10 lt10 h
    refine gc_if_ne C 34 dX9_isRightBar_20 (by decide) (fun c20_2 => ?_) (fun c20_2 => ?_)
    · have h := h.2 c20_2
      refine gc_sub [] rfl ?_
      exact k34 t (kdLe.rf _) h
    · have h := h.1 c20_2
      refine gc_aloadn C 0 3 dX9_isRightBar_23 rfl rfl ?_
      refine gc_callV C BX8 (y := yX8_hasWholeTriplets) (as := []) rfl (by decide) (by decide) (c_X8_hasWholeTriplets l D K E0 B A0 (v_X9_row a0 a1 a2 t) t _ X h) hk_X8_hasWholeTriplets rfl vl_X9_81 kc_X8_hasWholeTriplets (isC_of g3 (by decide)) dX9_isRightBar_24 (Nat.le_of_ble_eq_true rfl) (fun _ _ h => h) (qkI (fun r11 t11 h lt11 => ?_))
      refine gc_if_eq C 34 dX9_isRightBar_27 (by decide) (fun c27_3 => ?_) (fun c27_3 => ?_)
      · have h := h.1 c27_3
        refine gc_sub [] rfl ?_
        exact k34 t11 lt11 h
      · have h := h.2 c27_3
        refine gc_sub [] rfl ?_
        exact k30 t11 lt11 h
def w_X11_isRight (B : Nat × Nat) (a0 : Nat) (a1 : Int32) (a2 : Int32) (t : CS) (Q : Int32 → CS → Prop) (X : String → CS → Prop) : Prop := w_X11_requireVoice B a1 t (fun t1 => (kdC t1 a0 = 14) ∧ w_X11_requireBar B a0 a2 t1 (fun t3 => ((fR t3 224 a0) ≠ none) ∧ (kdC t3 (oG (fR t3 224 a0)) = 12) ∧ w_X9_isRightBar B (oG (fR t3 224 a0)) a1 a2 t3 (fun r6 t6 => (gb r6) ∧ Q r6 t6) X) X) X
set_option maxRecDepth 20000 in
set_option maxHeartbeats 2000000 in
theorem c_X11_isRight (l : Launch) (D : va_G) (K : Nat → ClassId) (E0 : Nat) (B : Nat × Nat) (A0 : Nat → Prop) (a0 : Nat) (a1 : Int32) (a2 : Int32) (t : CS) (Q : Int32 → CS → Prop) (X : String → CS → Prop) (h : w_X11_isRight B a0 a1 a2 t Q X) : MetC l yX11_isRight cX11_isRight 3 (some .boolean) 8 [.ref a0, .int a1, .int a2] (qI Q) X D K E0 B A0 t := by
  unfold w_X11_isRight at h
  refine gc_start (by decide) rfl (Nat.le_of_ble_eq_true rfl) (fun p e s m args below meth c C E => ?_)
  refine gc_iloadn C 1 1 dX11_isRight_0 rfl rfl ?_
  refine gc_callS C (y := yX11_requireVoice) (as := [.int a1]) rfl (by decide) (by decide) (c_X11_requireVoice l D K E0 B A0 a1 t _ X h) hk_X11_requireVoice rfl vl_X11_102 kc_X11_requireVoice dX11_isRight_1 (Nat.le_of_ble_eq_true rfl) (fun _ _ h => h) (qkV (fun t1 h lt1 => ?_))
  refine gc_aloadn C 0 0 dX11_isRight_4 rfl rfl ?_
  refine gc_iloadn C 2 2 dX11_isRight_5 rfl rfl ?_
  obtain ⟨g2, h⟩ := h
  refine gc_callV C BX11 (y := yX11_requireBar) (as := [.int a2]) rfl (by decide) (by decide) (c_X11_requireBar l D K E0 B A0 a0 a2 t1 _ X h) hk_X11_requireBar rfl vl_X11_62 kc_X11_requireBar (isC_of g2 (by decide)) dX11_isRight_6 (Nat.le_of_ble_eq_true rfl) (fun _ _ h => h) (qkV (fun t3 h lt3 => ?_))
  refine gc_aloadn C 0 0 dX11_isRight_9 rfl rfl ?_
  obtain ⟨g4, h⟩ := h
  refine gc_getR C BX11 224 0 (by decide) rfl ft_224 vf_X11_10 rfl (isC_of (kdLe.k lt3 g2 (by decide) (by decide)) (by decide)) (oG (fR t3 224 a0)) (oG_some g4) dX11_isRight_10 ?_
  refine gc_iloadn C 1 1 dX11_isRight_13 rfl rfl ?_
  refine gc_iloadn C 2 2 dX11_isRight_14 rfl rfl ?_
  obtain ⟨g5, h⟩ := h
  refine gc_callV C BX9 (y := yX9_isRightBar) (as := [.int a1, .int a2]) rfl (by decide) (by decide) (c_X9_isRightBar l D K E0 B A0 (oG (fR t3 224 a0)) a1 a2 t3 _ X h) hk_X9_isRightBar rfl vl_X11_180 kc_X9_isRightBar (isC_of g5 (by decide)) dX11_isRight_15 (Nat.le_of_ble_eq_true rfl) (fun _ _ h => h) (qkI (fun r6 t6 h lt6 => ?_))
  obtain ⟨g7, h⟩ := h
  exact gc_zret C E g7 (kdLe.tr lt1 (kdLe.tr lt3 lt6)) dX11_isRight_18 ⟨_, rfl, h⟩
def w_X11_written (B : Nat × Nat) (a0 : Nat) (a1 : Int32) (a2 : Int32) (a3 : Int32) (t : CS) (Q : Int32 → CS → Prop) (X : String → CS → Prop) : Prop := (kdC t a0 = 14) ∧ w_X11_requiredEvent B a0 a1 a2 a3 t (fun r2 t2 => (kdC t2 r2 = 3) ∧ (d_X0_isNote r2 t2) ∧ ((¬ ((v_X0_isNote r2 t2) = 0)) → (fR t2 224 a0) ≠ none) ∧ ((¬ ((v_X0_isNote r2 t2) = 0)) → kdC t2 (oG (fR t2 224 a0)) = 12) ∧ ((¬ ((v_X0_isNote r2 t2) = 0)) → vp_in a1 (cLN 195)) ∧ ∀ x5 : Int32, x5 = (if (v_X0_isNote r2 t2) = 0 then (-1) else ((fI t2 50 r2) + (fA t2 195 (oG (fR t2 224 a0)) (Int32.toNatClampNeg a1)))) → Q x5 t2) X
set_option maxRecDepth 20000 in
set_option maxHeartbeats 2000000 in
theorem c_X11_written (l : Launch) (D : va_G) (K : Nat → ClassId) (E0 : Nat) (B : Nat × Nat) (A0 : Nat → Prop) (a0 : Nat) (a1 : Int32) (a2 : Int32) (a3 : Int32) (t : CS) (Q : Int32 → CS → Prop) (X : String → CS → Prop) (h : w_X11_written B a0 a1 a2 a3 t Q X) : MetC l yX11_written cX11_written 5 (some .int) 9 [.ref a0, .int a1, .int a2, .int a3] (qI Q) X D K E0 B A0 t := by
  unfold w_X11_written at h
  refine gc_start (by decide) rfl (Nat.le_of_ble_eq_true rfl) (fun p e s m args below meth c C E => ?_)
  refine gc_aloadn C 0 0 dX11_written_0 rfl rfl ?_
  refine gc_iloadn C 1 1 dX11_written_1 rfl rfl ?_
  refine gc_iloadn C 2 2 dX11_written_2 rfl rfl ?_
  refine gc_iloadn C 3 3 dX11_written_3 rfl rfl ?_
  obtain ⟨g1, h⟩ := h
  refine gc_callV C BX11 (y := yX11_requiredEvent) (as := [.int a1, .int a2, .int a3]) rfl (by decide) (by decide) (c_X11_requiredEvent l D K E0 B A0 a0 a1 a2 a3 t _ X h) hk_X11_requiredEvent rfl vl_X11_140 kc_X11_requiredEvent (isC_of g1 (by decide)) dX11_written_4 (Nat.le_of_ble_eq_true rfl) (fun _ _ h => h) (qkR (fun r2 t2 h lt2 => ?_))
  refine gc_astore C [(4, .ref r2), (0, .ref a0), (1, .int a1), (2, .int a2), (3, .int a3)] dX11_written_7 (by decide) rfl ?_
  refine gc_aload C 0 dX11_written_9 rfl ?_
  obtain ⟨g3, h⟩ := h
  obtain ⟨g4, h⟩ := h
  refine gc_callV C BX0 (y := yX0_isNote) (as := []) rfl (by decide) (by decide) (c_X0_isNote l D K E0 B A0 r2 t2 g4) hk_X0_isNote rfl vl_X11_162 kc_X0_isNote (isC_of g3 (by decide)) dX11_written_11 (Nat.le_of_ble_eq_true rfl) (fun _ _ h => h.elim) (qkIP ?_)
  obtain ⟨g6, h⟩ := h
  obtain ⟨g7, h⟩ := h
  obtain ⟨g8, h⟩ := h
  have k36 : ∀ x5 : Int32, x5 = (if (v_X0_isNote r2 t2) = 0 then (-1) else ((fI t2 50 r2) + (fA t2 195 (oG (fR t2 224 a0)) (Int32.toNatClampNeg a1)))) → GC p l e (rmC 9 B t) s m args below meth c 5 D K E0 B A0 (gc_Q below D K E0 A0 (qI Q) X args s t (rmC 9 B t)) t2 36 [] [.int x5] := by
    intro x5 ex5
    have h := h x5 ex5
    exact gc_iret C E lt2 dX11_written_36 ⟨_, rfl, h⟩
  refine gc_if_eq C 35 dX11_written_14 (by decide) (fun c14_1 => ?_) (fun c14_1 => ?_)
  · refine gc_iconst C (-1) dX11_written_35 (by decide) ?_
    refine gc_sub [] rfl ?_
    exact k36 _ ((if_pos c14_1).symm)
  · refine gc_aload C 0 dX11_written_17 rfl ?_
    refine gc_getI C BX0 50 2 (by decide) rfl ft_50 vf_X11_155 rfl (isC_of g3 (by decide)) dX11_written_19 ?_
    refine gc_aloadn C 1 0 dX11_written_22 rfl rfl ?_
    refine gc_getR C BX11 224 0 (by decide) rfl ft_224 vf_X11_10 rfl (isC_of (kdLe.k lt2 g1 (by decide) (by decide)) (by decide)) (oG (fR t2 224 a0)) (oG_some (g6 c14_1)) dX11_written_23 ?_
    refine gc_getE C BX9 195 3 (by decide) rfl fe_195 vf_X11_176 rfl (g7 c14_1) dX11_written_26 ?_
    refine gc_iloadn C 2 1 dX11_written_29 rfl rfl ?_
    refine gc_iald C (ci := 12) (k0 := 3) 195 (by decide) (by decide) (by decide) rfl ft_195 (by decide) (g7 c14_1) (g8 c14_1) dX11_written_30 ?_
    refine gc_iadd C dX11_written_31 ?_
    refine gc_goto C 36 dX11_written_32 (by decide) ?_
    refine gc_sub [] rfl ?_
    exact k36 _ ((if_neg c14_1).symm)
def w_X5_init (B : Nat × Nat) (a0 : Nat) (a1 : Int32) (a2 : Int32) (a3 : Nat) (a4 : Int32) (a5 : Nat) (t : CS) (Q : CS → Prop) (X : String → CS → Prop) : Prop := (kdC t a0 = 8) ∧ ∀ t2 : CS, t2 = usI t 128 a0 a1 → ∀ t3 : CS, t3 = usI t2 129 a0 a2 → ∀ t4 : CS, t4 = usR t3 131 a0 (some a3) → ∀ t5 : CS, t5 = usI t4 130 a0 a4 → ∀ t6 : CS, t6 = usR t5 132 a0 (some a5) → Q t6
set_option maxRecDepth 20000 in
set_option maxHeartbeats 2000000 in
theorem c_X5_init (l : Launch) (D : va_G) (K : Nat → ClassId) (E0 : Nat) (B : Nat × Nat) (A0 : Nat → Prop) (a0 : Nat) (a1 : Int32) (a2 : Int32) (a3 : Nat) (a4 : Int32) (a5 : Nat) (t : CS) (Q : CS → Prop) (X : String → CS → Prop) (h : w_X5_init B a0 a1 a2 a3 a4 a5 t Q X) : MetC l yX5_init cX5_init 6 none 1 [.ref a0, .int a1, .int a2, .ref a3, .int a4, .ref a5] (qV Q) X D K E0 B A0 t := by
  unfold w_X5_init at h
  refine gc_start (by decide) rfl (Nat.le_of_ble_eq_true rfl) (fun p e s m args below meth c C E => ?_)
  refine gc_aloadn C 0 0 dX5_init_0 rfl rfl ?_
  refine gc_objInit C rfl (by decide) vo_X5_1 (Nat.le_of_ble_eq_true rfl) dX5_init_1 ?_
  refine gc_aloadn C 0 0 dX5_init_4 rfl rfl ?_
  refine gc_iloadn C 1 1 dX5_init_5 rfl rfl ?_
  obtain ⟨g1, h⟩ := h
  refine gc_putIF C BX5 128 0 (by decide) rfl .int ft_128 vf_X5_7 rfl rfl E.2 rfl (by decide +kernel) rfl rfl (isC_of g1 (by decide)) dX5_init_6 ?_
  refine gc_nameS (fun t2 et2 => ?_)
  have h := h t2 et2
  have lt2 : kdLe t t2 := kdLe.eq (by rw [et2]; rfl)
  refine gc_aloadn C 0 0 dX5_init_9 rfl rfl ?_
  refine gc_iloadn C 2 2 dX5_init_10 rfl rfl ?_
  refine gc_putIF C BX5 129 1 (by decide) rfl .int ft_129 vf_X5_13 rfl rfl E.2 rfl (by decide +kernel) rfl rfl (isC_of (kdLe.k lt2 g1 (by decide) (by decide)) (by decide)) dX5_init_11 ?_
  refine gc_nameS (fun t3 et3 => ?_)
  have h := h t3 et3
  have lt3 : kdLe t2 t3 := kdLe.eq (by rw [et3]; rfl)
  refine gc_aloadn C 0 0 dX5_init_14 rfl rfl ?_
  refine gc_aloadn C 3 3 dX5_init_15 rfl rfl ?_
  refine gc_putRF C BX5 131 3 (by decide) rfl "ScoreHouse$Event" ft_131 vf_X5_16 rfl rfl E.2 rfl (by decide +kernel) (isC_of (kdLe.k (kdLe.tr lt2 lt3) g1 (by decide) (by decide)) (by decide)) dX5_init_16 ?_
  refine gc_nameS (fun t4 et4 => ?_)
  have h := h t4 et4
  have lt4 : kdLe t3 t4 := kdLe.eq (by rw [et4]; rfl)
  refine gc_aloadn C 0 0 dX5_init_19 rfl rfl ?_
  refine gc_iload C 4 dX5_init_20 rfl ?_
  refine gc_putIF C BX5 130 2 (by decide) rfl .int ft_130 vf_X5_20 rfl rfl E.2 rfl (by decide +kernel) rfl rfl (isC_of (kdLe.k (kdLe.tr lt2 (kdLe.tr lt3 lt4)) g1 (by decide) (by decide)) (by decide)) dX5_init_22 ?_
  refine gc_nameS (fun t5 et5 => ?_)
  have h := h t5 et5
  have lt5 : kdLe t4 t5 := kdLe.eq (by rw [et5]; rfl)
  refine gc_aloadn C 0 0 dX5_init_25 rfl rfl ?_
  refine gc_aload C 5 dX5_init_26 rfl ?_
  refine gc_putRF C BX5 132 4 (by decide) rfl "ScoreHouse$Event" ft_132 vf_X5_23 rfl rfl E.2 rfl (by decide +kernel) (isC_of (kdLe.k (kdLe.tr lt2 (kdLe.tr lt3 (kdLe.tr lt4 lt5))) g1 (by decide) (by decide)) (by decide)) dX5_init_28 ?_
  refine gc_nameS (fun t6 et6 => ?_)
  have h := h t6 et6
  have lt6 : kdLe t5 t6 := kdLe.eq (by rw [et6]; rfl)
  exact gc_vret C E (kdLe.tr lt2 (kdLe.tr lt3 (kdLe.tr lt4 (kdLe.tr lt5 lt6)))) dX5_init_31 ⟨rfl, h⟩
def w_X11_addPhrase (B : Nat × Nat) (a0 : Nat) (a1 : Int32) (a2 : Int32) (a3 : Int32) (a4 : Int32) (a5 : Int32) (t : CS) (Q : Int32 → CS → Prop) (X : String → CS → Prop) : Prop := (kdC t a0 = 14) ∧ w_X11_requiredEvent B a0 a1 a2 a3 t (fun r2 t2 => w_X11_requiredEvent B a0 a1 a4 a5 t2 (fun r3 t3 => ∀ x4 : Int32, x4 = (if (a2 < a4) ∨ ((a4 = a2) ∧ (¬ (a5 ≤ a3))) then 1 else 0) → ((¬ (x4 = 0)) → (fR t3 224 a0) ≠ none) ∧ ((¬ (x4 = 0)) → kdC t3 (oG (fR t3 224 a0)) = 12) ∧ (((x4 = 0) ∨ (¬ ((nI (fL t3 193 (oG (fR t3 224 a0))).length) < 20))) → (szC t3 + 1 ≤ B.1 ∧ nsC t3 + 6 ≤ B.2) ∧ ∀ sz ns : Nat, X "java/lang/IllegalStateException" (rsz t3 sz ns)) ∧ (¬ ((x4 = 0) ∨ (¬ ((nI (fL t3 193 (oG (fR t3 224 a0))).length) < 20))) → ((fR t3 224 a0) ≠ none) ∧ (kdC t3 (oG (fR t3 224 a0)) = 12) ∧ (szC t3 + 1 ≤ B.1 ∧ nsC t3 + cNF 8 ≤ B.2) ∧ ∀ _ : kdC t3 (szC t3) = 0, ∀ t12 : CS, t12 = newO t3 8 → w_X5_init B (szC t3) a1 a2 r2 a4 r3 t12 (fun t13 => (lOK t13 193 (oG (fR t3 224 a0))) ∧ (kdC t13 (szC t3) = 8) ∧ (szC t13 + lcA t13 193 (oG (fR t3 224 a0)) ≤ B.1 ∧ nsC t13 + lcS t13 193 (oG (fR t3 224 a0)) ≤ B.2) ∧ ∀ sz17 ns17 : Nat, szC t13 ≤ sz17 → sz17 ≤ szC t13 + lcA t13 193 (oG (fR t3 224 a0)) → ns17 ≤ nsC t13 + lcS t13 193 (oG (fR t3 224 a0)) → ∀ t18 : CS, t18 = usL t13 193 (oG (fR t3 224 a0)) (fL t13 193 (oG (fR t3 224 a0)) ++ [(szC t3)]) (capA t13 193 (oG (fR t3 224 a0))) sz17 ns17 → ((fR t18 224 a0) ≠ none) ∧ (kdC t18 (oG (fR t18 224 a0)) = 12) ∧ ∀ t21 : CS, t21 = usI t18 199 (oG (fR t18 224 a0)) ((fI t18 199 (oG (fR t18 224 a0))) + 1) → ((fR t21 224 a0) ≠ none) ∧ (kdC t21 (oG (fR t21 224 a0)) = 12) ∧ Q ((nI (fL t21 193 (oG (fR t21 224 a0))).length) - 1) t21) X)) X) X
set_option maxRecDepth 20000 in
set_option maxHeartbeats 2000000 in
theorem c_X11_addPhrase (l : Launch) (D : va_G) (K : Nat → ClassId) (E0 : Nat) (B : Nat × Nat) (A0 : Nat → Prop) (a0 : Nat) (a1 : Int32) (a2 : Int32) (a3 : Int32) (a4 : Int32) (a5 : Int32) (t : CS) (Q : Int32 → CS → Prop) (X : String → CS → Prop) (h : w_X11_addPhrase B a0 a1 a2 a3 a4 a5 t Q X) : MetC l yX11_addPhrase cX11_addPhrase 9 (some .int) 9 [.ref a0, .int a1, .int a2, .int a3, .int a4, .int a5] (qI Q) X D K E0 B A0 t := by
  unfold w_X11_addPhrase at h
  refine gc_start (by decide) rfl (Nat.le_of_ble_eq_true rfl) (fun p e s m args below meth c C E => ?_)
  refine gc_aloadn C 0 0 dX11_addPhrase_0 rfl rfl ?_
  refine gc_iloadn C 1 1 dX11_addPhrase_1 rfl rfl ?_
  refine gc_iloadn C 2 2 dX11_addPhrase_2 rfl rfl ?_
  refine gc_iloadn C 3 3 dX11_addPhrase_3 rfl rfl ?_
  obtain ⟨g1, h⟩ := h
  refine gc_callV C BX11 (y := yX11_requiredEvent) (as := [.int a1, .int a2, .int a3]) rfl (by decide) (by decide) (c_X11_requiredEvent l D K E0 B A0 a0 a1 a2 a3 t _ X h) hk_X11_requiredEvent rfl vl_X11_140 kc_X11_requiredEvent (isC_of g1 (by decide)) dX11_addPhrase_4 (Nat.le_of_ble_eq_true rfl) (fun _ _ h => h) (qkR (fun r2 t2 h lt2 => ?_))
  refine gc_astore C [(6, .ref r2), (0, .ref a0), (1, .int a1), (2, .int a2), (3, .int a3), (4, .int a4), (5, .int a5)] dX11_addPhrase_7 (by decide) rfl ?_
  refine gc_aloadn C 1 0 dX11_addPhrase_9 rfl rfl ?_
  refine gc_iloadn C 2 1 dX11_addPhrase_10 rfl rfl ?_
  refine gc_iload C 5 dX11_addPhrase_11 rfl ?_
  refine gc_iload C 6 dX11_addPhrase_13 rfl ?_
  refine gc_callV C BX11 (y := yX11_requiredEvent) (as := [.int a1, .int a4, .int a5]) rfl (by decide) (by decide) (c_X11_requiredEvent l D K E0 B A0 a0 a1 a4 a5 t2 _ X h) hk_X11_requiredEvent rfl vl_X11_140 kc_X11_requiredEvent (isC_of (kdLe.k lt2 g1 (by decide) (by decide)) (by decide)) dX11_addPhrase_15 (Nat.le_of_ble_eq_true rfl) (fun _ _ h => h) (qkR (fun r3 t3 h lt3 => ?_))
  refine gc_astore C [(7, .ref r3), (6, .ref r2), (0, .ref a0), (1, .int a1), (2, .int a2), (3, .int a3), (4, .int a4), (5, .int a5)] dX11_addPhrase_18 (by decide) rfl ?_
  refine gc_iload C 6 dX11_addPhrase_20 rfl ?_
  refine gc_iloadn C 4 2 dX11_addPhrase_22 rfl rfl ?_
  have k43 : ∀ x4 : Int32, x4 = (if (a2 < a4) ∨ ((a4 = a2) ∧ (¬ (a5 ≤ a3))) then 1 else 0) → GC p l e (rmC 9 B t) s m args below meth c 9 D K E0 B A0 (gc_Q below D K E0 A0 (qI Q) X args s t (rmC 9 B t)) t3 43 [(0, .ref a0), (1, .int a1), (2, .int a2), (4, .int a4), (6, .ref r2), (7, .ref r3)] [.int x4] := by
    intro x4 ex4
    have h := h x4 ex4
    refine gc_istore C [(8, .int x4), (0, .ref a0), (1, .int a1), (2, .int a2), (4, .int a4), (6, .ref r2), (7, .ref r3)] dX11_addPhrase_43 (by decide) rfl ?_
    refine gc_iload C 0 dX11_addPhrase_45 rfl ?_
    obtain ⟨g5, h⟩ := h
    obtain ⟨g6, h⟩ := h
    have kt43 : ((x4 = 0) ∨ (¬ ((nI (fL t3 193 (oG (fR t3 224 a0))).length) < 20))) → GC p l e (rmC 9 B t) s m args below meth c 9 D K E0 B A0 (gc_Q below D K E0 A0 (qI Q) X args s t (rmC 9 B t)) t3 65 [(8, .int x4), (0, .ref a0), (1, .int a1), (2, .int a2), (4, .int a4), (6, .ref r2), (7, .ref r3)] [] := by
      intro hc
      have h := h.1 hc
      obtain ⟨g7, h⟩ := h
      exact gc_throwS C (text := "the phrase goes backwards, or there were too many") rfl (by decide) (Nat.le_of_ble_eq_true rfl) ex_X11_37_41 (by decide +kernel) dX11_addPhrase_65 dX11_addPhrase_68 dX11_addPhrase_69 dX11_addPhrase_71 dX11_addPhrase_74 g7 h
    have kf43 : ¬ ((x4 = 0) ∨ (¬ ((nI (fL t3 193 (oG (fR t3 224 a0))).length) < 20))) → GC p l e (rmC 9 B t) s m args below meth c 9 D K E0 B A0 (gc_Q below D K E0 A0 (qI Q) X args s t (rmC 9 B t)) t3 75 [(8, .int x4), (0, .ref a0), (1, .int a1), (2, .int a2), (4, .int a4), (6, .ref r2), (7, .ref r3)] [] := by
      intro hc
      have h := h.2 hc
      refine gc_aloadn C 1 0 dX11_addPhrase_75 rfl rfl ?_
      obtain ⟨g8, h⟩ := h
      refine gc_getR C BX11 224 0 (by decide) rfl ft_224 vf_X11_10 rfl (isC_of (kdLe.k (kdLe.tr lt2 lt3) g1 (by decide) (by decide)) (by decide)) (oG (fR t3 224 a0)) (oG_some g8) dX11_addPhrase_76 ?_
      obtain ⟨g9, h⟩ := h
      refine gc_getE C BX9 193 1 (by decide) rfl fe_193 vf_X11_183 rfl g9 dX11_addPhrase_79 ?_
      obtain ⟨g10, h⟩ := h
      refine gc_new C BX5 hd_X5 vn_X11_189 g10 dX11_addPhrase_82 (fun hz11 => ?_)
      have h := h hz11
      refine gc_nameS (fun t12 et12 => ?_)
      have h := h t12 et12
      have lt12 : kdLe t3 t12 := by rw [et12]; exact newO_le hz11
      refine gc_dup C dX11_addPhrase_85 rfl ?_
      refine gc_iloadn C 2 1 dX11_addPhrase_86 rfl rfl ?_
      refine gc_iloadn C 3 2 dX11_addPhrase_87 rfl rfl ?_
      refine gc_aload C 5 dX11_addPhrase_88 rfl ?_
      refine gc_iload C 4 dX11_addPhrase_90 rfl ?_
      refine gc_aload C 6 dX11_addPhrase_92 rfl ?_
      refine gc_callI C (y := yX5_init) (as := [.int a1, .int a2, .ref r2, .int a4, .ref r3]) rfl (by decide) (by decide) (c_X5_init l D K E0 B A0 (szC t3) a1 a2 r2 a4 r3 t12 _ X h) hk_X5_init rfl rfl vl_X11_191 kc_X5_init dX11_addPhrase_94 (Nat.le_of_ble_eq_true rfl) (fun _ _ h => h) (qkV (fun t13 h lt13 => ?_))
      obtain ⟨g14, h⟩ := h
      obtain ⟨g15, h⟩ := h
      obtain ⟨g16, h⟩ := h
      refine gc_lsAdd C (ci := 12) (k0 := 1) 193 (by decide) (by decide) (by decide) rfl ft_193 rfl (by decide) (ce := 8) (rr := (RX5, TX5, 6)) (by decide +kernel) (by decide) (by decide) rfl n_i1734 (kdLe.k (kdLe.tr lt12 lt13) g9 (by decide) (by decide)) g14 g15 g16 vj_X11_52 dX11_addPhrase_97 (Nat.le_of_ble_eq_true rfl) (fun sz17 ns17 y17a y17b y17c => ?_)
      have h := h sz17 ns17 y17a y17b y17c
      refine gc_nameS (fun t18 et18 => ?_)
      have h := h t18 et18
      have lt18 : kdLe t13 t18 := kdLe.eq (by rw [et18]; rfl)
      refine gc_pop C dX11_addPhrase_100 rfl ?_
      refine gc_aloadn C 1 0 dX11_addPhrase_101 rfl rfl ?_
      obtain ⟨g19, h⟩ := h
      refine gc_getR C BX11 224 0 (by decide) rfl ft_224 vf_X11_10 rfl (isC_of (kdLe.k (kdLe.tr lt2 (kdLe.tr lt3 (kdLe.tr lt12 (kdLe.tr lt13 lt18)))) g1 (by decide) (by decide)) (by decide)) (oG (fR t18 224 a0)) (oG_some g19) dX11_addPhrase_102 ?_
      refine gc_dup C dX11_addPhrase_105 rfl ?_
      obtain ⟨g20, h⟩ := h
      refine gc_getI C BX9 199 7 (by decide) rfl ft_199 vf_X11_58 rfl (isC_of g20 (by decide)) dX11_addPhrase_106 ?_
      refine gc_iconst C 1 dX11_addPhrase_109 (by decide) ?_
      refine gc_iadd C dX11_addPhrase_110 ?_
      refine gc_putI C BX9 199 7 (by decide) rfl .int ft_199 vf_X11_58 rfl rfl (by decide +kernel) rfl rfl (isC_of g20 (by decide)) dX11_addPhrase_111 ?_
      refine gc_nameS (fun t21 et21 => ?_)
      have h := h t21 et21
      have lt21 : kdLe t18 t21 := kdLe.eq (by rw [et21]; rfl)
      refine gc_aloadn C 1 0 dX11_addPhrase_114 rfl rfl ?_
      obtain ⟨g22, h⟩ := h
      refine gc_getR C BX11 224 0 (by decide) rfl ft_224 vf_X11_10 rfl (isC_of (kdLe.k (kdLe.tr lt2 (kdLe.tr lt3 (kdLe.tr lt12 (kdLe.tr lt13 (kdLe.tr lt18 lt21))))) g1 (by decide) (by decide)) (by decide)) (oG (fR t21 224 a0)) (oG_some g22) dX11_addPhrase_115 ?_
      obtain ⟨g23, h⟩ := h
      refine gc_getE C BX9 193 1 (by decide) rfl fe_193 vf_X11_183 rfl g23 dX11_addPhrase_118 ?_
      refine gc_lsSize C (ci := 12) (k0 := 1) 193 (by decide) (by decide) (by decide) rfl ft_193 rfl (by decide) g23 vj_X11_186 dX11_addPhrase_121 (Nat.le_of_ble_eq_true rfl) ?_
      refine gc_iconst C 1 dX11_addPhrase_124 (by decide) ?_
      refine gc_isub C dX11_addPhrase_125 ?_
      exact gc_iret C E (kdLe.tr lt2 (kdLe.tr lt3 (kdLe.tr lt12 (kdLe.tr lt13 (kdLe.tr lt18 lt21))))) dX11_addPhrase_126 ⟨_, rfl, h⟩
    refine gc_if_eq C 65 dX11_addPhrase_47 (by decide) (fun c47_4 => ?_) (fun c47_4 => ?_)
    · exact kt43 (Or.inl c47_4)
    · refine gc_aloadn C 1 0 dX11_addPhrase_50 rfl rfl ?_
      refine gc_getR C BX11 224 0 (by decide) rfl ft_224 vf_X11_10 rfl (isC_of (kdLe.k (kdLe.tr lt2 lt3) g1 (by decide) (by decide)) (by decide)) (oG (fR t3 224 a0)) (oG_some (g5 c47_4)) dX11_addPhrase_51 ?_
      refine gc_getE C BX9 193 1 (by decide) rfl fe_193 vf_X11_183 rfl (g6 c47_4) dX11_addPhrase_54 ?_
      refine gc_lsSize C (ci := 12) (k0 := 1) 193 (by decide) (by decide) (by decide) rfl ft_193 rfl (by decide) (g6 c47_4) vj_X11_186 dX11_addPhrase_57 (Nat.le_of_ble_eq_true rfl) ?_
      refine gc_bipush C 20 dX11_addPhrase_60 (by decide) ?_
      refine gc_icmp_lt C 75 dX11_addPhrase_62 (by decide) (fun c62_5 => ?_) (fun c62_5 => ?_)
      · exact kf43 (fun q0 => Or.elim q0 c47_4 (fun q1 => q1 c62_5))
      · exact kt43 (Or.inr c62_5)
  refine gc_icmp_gt C 38 dX11_addPhrase_23 (by decide) (fun c23_1 => ?_) (fun c23_1 => ?_)
  · refine gc_iconst C 1 dX11_addPhrase_38 (by decide) ?_
    refine gc_goto C 43 dX11_addPhrase_39 (by decide) ?_
    refine gc_sub [2, 3, 4, 6, 1, 0] rfl ?_
    exact k43 _ ((if_pos (Or.inl c23_1)).symm)
  · refine gc_iload C 6 dX11_addPhrase_26 rfl ?_
    refine gc_iloadn C 4 2 dX11_addPhrase_28 rfl rfl ?_
    refine gc_icmp_ne C 42 dX11_addPhrase_29 (by decide) (fun c29_2 => ?_) (fun c29_2 => ?_)
    · refine gc_iconst C 0 dX11_addPhrase_42 (by decide) ?_
      refine gc_sub [2, 3, 4, 6, 1, 0] rfl ?_
      exact k43 _ ((if_neg (fun q0 => Or.elim q0 c23_1 (fun q1 => c29_2 q1.1))).symm)
    · refine gc_iload C 7 dX11_addPhrase_32 rfl ?_
      refine gc_iloadn C 5 3 dX11_addPhrase_34 rfl rfl ?_
      refine gc_icmp_le C 42 dX11_addPhrase_35 (by decide) (fun c35_3 => ?_) (fun c35_3 => ?_)
      · refine gc_iconst C 0 dX11_addPhrase_42 (by decide) ?_
        refine gc_sub [2, 3, 4, 6, 1, 0] rfl ?_
        exact k43 _ ((if_neg (fun q0 => Or.elim q0 c23_1 (fun q1 => (fun q2 => q2 c35_3) q1.2))).symm)
      · refine gc_iconst C 1 dX11_addPhrase_38 (by decide) ?_
        refine gc_goto C 43 dX11_addPhrase_39 (by decide) ?_
        refine gc_sub [2, 3, 4, 6, 1, 0] rfl ?_
        exact k43 _ ((if_pos (Or.inr ⟨c29_2, c35_3⟩)).symm)
def w_X11_dropPhrase (B : Nat × Nat) (a0 : Nat) (a1 : Int32) (t : CS) (Q : Int32 → CS → Prop) (X : String → CS → Prop) : Prop := (kdC t a0 = 14) ∧ ((fR t 224 a0) ≠ none) ∧ (kdC t (oG (fR t 224 a0)) = 12) ∧ w_X11_requireIndex B a1 (nI (fL t 193 (oG (fR t 224 a0))).length) t (fun t4 => ((fR t4 224 a0) ≠ none) ∧ (kdC t4 (oG (fR t4 224 a0)) = 12) ∧ (lIn t4 193 (oG (fR t4 224 a0)) a1) ∧ (kdC t4 (lG t4 193 (oG (fR t4 224 a0)) a1) = 8) ∧ ∀ x9 : Int32, x9 = (if (fI t4 133 (lG t4 193 (oG (fR t4 224 a0)) a1)) = 0 then 1 else 0) → ∀ t10 : CS, t10 = usI t4 133 (lG t4 193 (oG (fR t4 224 a0)) a1) 1 → ((fR t10 224 a0) ≠ none) ∧ (kdC t10 (oG (fR t10 224 a0)) = 12) ∧ ∀ t13 : CS, t13 = usI t10 199 (oG (fR t10 224 a0)) ((fI t10 199 (oG (fR t10 224 a0))) + 1) → (gb x9) ∧ Q x9 t13) X
set_option maxRecDepth 20000 in
set_option maxHeartbeats 2000000 in
theorem c_X11_dropPhrase (l : Launch) (D : va_G) (K : Nat → ClassId) (E0 : Nat) (B : Nat × Nat) (A0 : Nat → Prop) (a0 : Nat) (a1 : Int32) (t : CS) (Q : Int32 → CS → Prop) (X : String → CS → Prop) (h : w_X11_dropPhrase B a0 a1 t Q X) : MetC l yX11_dropPhrase cX11_dropPhrase 4 (some .boolean) 7 [.ref a0, .int a1] (qI Q) X D K E0 B A0 t := by
  unfold w_X11_dropPhrase at h
  refine gc_start (by decide) rfl (Nat.le_of_ble_eq_true rfl) (fun p e s m args below meth c C E => ?_)
  refine gc_iloadn C 1 1 dX11_dropPhrase_0 rfl rfl ?_
  refine gc_aloadn C 0 0 dX11_dropPhrase_1 rfl rfl ?_
  obtain ⟨g1, h⟩ := h
  obtain ⟨g2, h⟩ := h
  refine gc_getR C BX11 224 0 (by decide) rfl ft_224 vf_X11_10 rfl (isC_of g1 (by decide)) (oG (fR t 224 a0)) (oG_some g2) dX11_dropPhrase_2 ?_
  obtain ⟨g3, h⟩ := h
  refine gc_getE C BX9 193 1 (by decide) rfl fe_193 vf_X11_183 rfl g3 dX11_dropPhrase_5 ?_
  refine gc_lsSize C (ci := 12) (k0 := 1) 193 (by decide) (by decide) (by decide) rfl ft_193 rfl (by decide) g3 vj_X11_186 dX11_dropPhrase_8 (Nat.le_of_ble_eq_true rfl) ?_
  refine gc_callS C (y := yX11_requireIndex) (as := [.int a1, .int (nI (fL t 193 (oG (fR t 224 a0))).length)]) rfl (by decide) (by decide) (c_X11_requireIndex l D K E0 B A0 a1 (nI (fL t 193 (oG (fR t 224 a0))).length) t _ X h) hk_X11_requireIndex rfl vl_X11_119 kc_X11_requireIndex dX11_dropPhrase_11 (Nat.le_of_ble_eq_true rfl) (fun _ _ h => h) (qkV (fun t4 h lt4 => ?_))
  refine gc_aloadn C 0 0 dX11_dropPhrase_14 rfl rfl ?_
  obtain ⟨g5, h⟩ := h
  refine gc_getR C BX11 224 0 (by decide) rfl ft_224 vf_X11_10 rfl (isC_of (kdLe.k lt4 g1 (by decide) (by decide)) (by decide)) (oG (fR t4 224 a0)) (oG_some g5) dX11_dropPhrase_15 ?_
  obtain ⟨g6, h⟩ := h
  refine gc_getE C BX9 193 1 (by decide) rfl fe_193 vf_X11_183 rfl g6 dX11_dropPhrase_18 ?_
  refine gc_iloadn C 1 1 dX11_dropPhrase_21 rfl rfl ?_
  obtain ⟨g7, h⟩ := h
  refine gc_lsGet C (ci := 12) (k0 := 1) 193 (by decide) (by decide) (by decide) rfl ft_193 rfl (by decide) g6 g7 vj_X11_194 dX11_dropPhrase_22 (Nat.le_of_ble_eq_true rfl) ?_
  obtain ⟨g8, h⟩ := h
  refine gc_cast C BX5 v_i1312 (isC_of g8 (by decide)) dX11_dropPhrase_25 ?_
  refine gc_astoren C 2 [(2, .ref (lG t4 193 (oG (fR t4 224 a0)) a1)), (0, .ref a0), (1, .int a1)] dX11_dropPhrase_28 rfl (by decide) rfl ?_
  refine gc_aloadn C 0 2 dX11_dropPhrase_29 rfl rfl ?_
  refine gc_getI C BX5 133 5 (by decide) rfl ft_133 vf_X11_198 rfl (isC_of g8 (by decide)) dX11_dropPhrase_30 ?_
  have k41 : ∀ x9 : Int32, x9 = (if (fI t4 133 (lG t4 193 (oG (fR t4 224 a0)) a1)) = 0 then 1 else 0) → GC p l e (rmC 7 B t) s m args below meth c 4 D K E0 B A0 (gc_Q below D K E0 A0 (qI Q) X args s t (rmC 7 B t)) t4 41 [(0, .ref a0), (2, .ref (lG t4 193 (oG (fR t4 224 a0)) a1))] [.int x9] := by
    intro x9 ex9
    have h := h x9 ex9
    refine gc_istoren C 3 [(3, .int x9), (0, .ref a0), (2, .ref (lG t4 193 (oG (fR t4 224 a0)) a1))] dX11_dropPhrase_41 rfl (by decide) rfl ?_
    refine gc_aloadn C 2 2 dX11_dropPhrase_42 rfl rfl ?_
    refine gc_iconst C 1 dX11_dropPhrase_43 (by decide) ?_
    refine gc_putI C BX5 133 5 (by decide) rfl .boolean ft_133 vf_X11_198 rfl rfl (by decide +kernel) (gb_nar (Or.inr rfl)) (gb_fit (Or.inr rfl)) (isC_of g8 (by decide)) dX11_dropPhrase_44 ?_
    refine gc_nameS (fun t10 et10 => ?_)
    have h := h t10 et10
    have lt10 : kdLe t4 t10 := kdLe.eq (by rw [et10]; rfl)
    refine gc_aloadn C 1 0 dX11_dropPhrase_47 rfl rfl ?_
    obtain ⟨g11, h⟩ := h
    refine gc_getR C BX11 224 0 (by decide) rfl ft_224 vf_X11_10 rfl (isC_of (kdLe.k (kdLe.tr lt4 lt10) g1 (by decide) (by decide)) (by decide)) (oG (fR t10 224 a0)) (oG_some g11) dX11_dropPhrase_48 ?_
    refine gc_dup C dX11_dropPhrase_51 rfl ?_
    obtain ⟨g12, h⟩ := h
    refine gc_getI C BX9 199 7 (by decide) rfl ft_199 vf_X11_58 rfl (isC_of g12 (by decide)) dX11_dropPhrase_52 ?_
    refine gc_iconst C 1 dX11_dropPhrase_55 (by decide) ?_
    refine gc_iadd C dX11_dropPhrase_56 ?_
    refine gc_putI C BX9 199 7 (by decide) rfl .int ft_199 vf_X11_58 rfl rfl (by decide +kernel) rfl rfl (isC_of g12 (by decide)) dX11_dropPhrase_57 ?_
    refine gc_nameS (fun t13 et13 => ?_)
    have h := h t13 et13
    have lt13 : kdLe t10 t13 := kdLe.eq (by rw [et13]; rfl)
    refine gc_iloadn C 0 3 dX11_dropPhrase_60 rfl rfl ?_
    obtain ⟨g14, h⟩ := h
    exact gc_zret C E g14 (kdLe.tr lt4 (kdLe.tr lt10 lt13)) dX11_dropPhrase_61 ⟨_, rfl, h⟩
  refine gc_if_ne C 40 dX11_dropPhrase_33 (by decide) (fun c33_1 => ?_) (fun c33_1 => ?_)
  · refine gc_iconst C 0 dX11_dropPhrase_40 (by decide) ?_
    refine gc_sub [1, 0] rfl ?_
    exact k41 _ ((if_neg c33_1).symm)
  · refine gc_iconst C 1 dX11_dropPhrase_36 (by decide) ?_
    refine gc_goto C 41 dX11_dropPhrase_37 (by decide) ?_
    refine gc_sub [1, 0] rfl ?_
    exact k41 _ ((if_pos c33_1).symm)
def w_X9_phrasesThere_L4 (a0 : Nat) (t : CS) (Q : Int32 → CS → Prop) (K4 : (Int32 × Int32) → Prop) (z4 : Int32 × Int32) : Prop := (kdC t a0 = 12) ∧ (((nI (fL t 193 a0).length) ≤ z4.2) → Q z4.1 t) ∧ (¬ ((nI (fL t 193 a0).length) ≤ z4.2) → (lIn t 193 a0 z4.2) ∧ (kdC t (lG t 193 a0 z4.2) = 8) ∧ ∀ x4 : Int32, x4 = (if (fI t 133 (lG t 193 a0 z4.2)) = 0 then 1 else 0) → ∀ x5 : Int32, x5 = (z4.1 + x4) → K4 (x5, (z4.2 + 1)))
def w_X9_phrasesThere (B : Nat × Nat) (a0 : Nat) (t : CS) (Q : Int32 → CS → Prop) (X : String → CS → Prop) : Prop := ∃ n, lp (w_X9_phrasesThere_L4 a0 t Q) n (0, 0)
set_option maxRecDepth 20000 in
set_option maxHeartbeats 2000000 in
theorem c_X9_phrasesThere (l : Launch) (D : va_G) (K : Nat → ClassId) (E0 : Nat) (B : Nat × Nat) (A0 : Nat → Prop) (a0 : Nat) (t : CS) (Q : Int32 → CS → Prop) (X : String → CS → Prop) (h : w_X9_phrasesThere B a0 t Q X) : MetC l yX9_phrasesThere cX9_phrasesThere 3 (some .int) 3 [.ref a0] (qI Q) X D K E0 B A0 t := by
  unfold w_X9_phrasesThere at h
  refine gc_start (by decide) rfl (Nat.le_of_ble_eq_true rfl) (fun p e s m args below meth c C E => ?_)
  refine gc_iconst C 0 dX9_phrasesThere_0 (by decide) ?_
  refine gc_istoren C 1 [(1, .int 0), (0, .ref a0)] dX9_phrasesThere_1 rfl (by decide) rfl ?_
  refine gc_iconst C 0 dX9_phrasesThere_2 (by decide) ?_
  refine gc_istoren C 2 [(2, .int 0), (1, .int 0), (0, .ref a0)] dX9_phrasesThere_3 rfl (by decide) rfl ?_
  refine gc_sub [2, 1, 0] rfl ?_
  obtain ⟨n4, h⟩ := h
  have k4 : ∀ (n4 : Nat) (z4 : Int32 × Int32), lp (w_X9_phrasesThere_L4 a0 t Q) n4 z4 → GC p l e (rmC 3 B t) s m args below meth c 3 D K E0 B A0 (gc_Q below D K E0 A0 (qI Q) X args s t (rmC 3 B t)) t 4 [(0, .ref a0), (1, .int z4.1), (2, .int z4.2)] [] := by
    intro n4
    induction n4 with
    | zero => intro z4 h; exact h.elim
    | succ n4 ih4 =>
      intro z4 h
      have h : w_X9_phrasesThere_L4 a0 t Q (lp (w_X9_phrasesThere_L4 a0 t Q) n4) z4 := h
      unfold w_X9_phrasesThere_L4 at h
      refine gc_iloadn C 2 2 dX9_phrasesThere_4 rfl rfl ?_
      refine gc_aloadn C 0 0 dX9_phrasesThere_5 rfl rfl ?_
      obtain ⟨g1, h⟩ := h
      refine gc_getE C BX9 193 1 (by decide) rfl fe_193 vf_X9_18 rfl g1 dX9_phrasesThere_6 ?_
      refine gc_lsSize C (ci := 12) (k0 := 1) 193 (by decide) (by decide) (by decide) rfl ft_193 rfl (by decide) g1 vj_X9_38 dX9_phrasesThere_9 (Nat.le_of_ble_eq_true rfl) ?_
      refine gc_icmp_ge C 46 dX9_phrasesThere_12 (by decide) (fun c12_1 => ?_) (fun c12_1 => ?_)
      · have h := h.1 c12_1
        refine gc_iloadn C 1 1 dX9_phrasesThere_46 rfl rfl ?_
        exact gc_iret C E (kdLe.rf _) dX9_phrasesThere_47 ⟨_, rfl, h⟩
      · have h := h.2 c12_1
        refine gc_iloadn C 1 1 dX9_phrasesThere_15 rfl rfl ?_
        refine gc_aloadn C 0 0 dX9_phrasesThere_16 rfl rfl ?_
        refine gc_getE C BX9 193 1 (by decide) rfl fe_193 vf_X9_18 rfl g1 dX9_phrasesThere_17 ?_
        refine gc_iloadn C 2 2 dX9_phrasesThere_20 rfl rfl ?_
        obtain ⟨g2, h⟩ := h
        refine gc_lsGet C (ci := 12) (k0 := 1) 193 (by decide) (by decide) (by decide) rfl ft_193 rfl (by decide) g1 g2 vj_X9_42 dX9_phrasesThere_21 (Nat.le_of_ble_eq_true rfl) ?_
        obtain ⟨g3, h⟩ := h
        refine gc_cast C BX5 v_i231 (isC_of g3 (by decide)) dX9_phrasesThere_24 ?_
        refine gc_getI C BX5 133 5 (by decide) rfl ft_133 vf_X9_113 rfl (isC_of g3 (by decide)) dX9_phrasesThere_27 ?_
        have k38 : ∀ x4 : Int32, x4 = (if (fI t 133 (lG t 193 a0 z4.2)) = 0 then 1 else 0) → GC p l e (rmC 3 B t) s m args below meth c 3 D K E0 B A0 (gc_Q below D K E0 A0 (qI Q) X args s t (rmC 3 B t)) t 38 [(0, .ref a0), (2, .int z4.2)] [.int x4, .int z4.1] := by
          intro x4 ex4
          have h := h x4 ex4
          refine gc_iadd C dX9_phrasesThere_38 ?_
          refine gc_nameI (fun x5 ex5 => ?_)
          have h := h x5 ex5
          refine gc_istoren C 1 [(1, .int x5), (0, .ref a0), (2, .int z4.2)] dX9_phrasesThere_39 rfl (by decide) rfl ?_
          refine gc_iinc C 2 (z4.2 + 1) [(2, .int (z4.2 + 1)), (1, .int x5), (0, .ref a0)] dX9_phrasesThere_40 rfl rfl (by decide) rfl ?_
          refine gc_goto C 4 dX9_phrasesThere_43 (by decide) ?_
          refine gc_sub [2, 1, 0] rfl ?_
          have h9 := ih4 (x5, (z4.2 + 1)) h
          exact h9
        refine gc_if_eq C 37 dX9_phrasesThere_30 (by decide) (fun c30_2 => ?_) (fun c30_2 => ?_)
        · refine gc_iconst C 1 dX9_phrasesThere_37 (by decide) ?_
          refine gc_sub [0, 2] rfl ?_
          exact k38 _ ((if_pos c30_2).symm)
        · refine gc_iconst C 0 dX9_phrasesThere_33 (by decide) ?_
          refine gc_goto C 38 dX9_phrasesThere_34 (by decide) ?_
          refine gc_sub [0, 2] rfl ?_
          exact k38 _ ((if_neg c30_2).symm)
  exact k4 n4 (0, 0) h
def w_X11_phrases (B : Nat × Nat) (a0 : Nat) (t : CS) (Q : Int32 → CS → Prop) (X : String → CS → Prop) : Prop := (kdC t a0 = 14) ∧ ((fR t 224 a0) ≠ none) ∧ (kdC t (oG (fR t 224 a0)) = 12) ∧ w_X9_phrasesThere B (oG (fR t 224 a0)) t (fun r4 t4 => Q r4 t4) X
set_option maxRecDepth 20000 in
set_option maxHeartbeats 2000000 in
theorem c_X11_phrases (l : Launch) (D : va_G) (K : Nat → ClassId) (E0 : Nat) (B : Nat × Nat) (A0 : Nat → Prop) (a0 : Nat) (t : CS) (Q : Int32 → CS → Prop) (X : String → CS → Prop) (h : w_X11_phrases B a0 t Q X) : MetC l yX11_phrases cX11_phrases 1 (some .int) 4 [.ref a0] (qI Q) X D K E0 B A0 t := by
  unfold w_X11_phrases at h
  refine gc_start (by decide) rfl (Nat.le_of_ble_eq_true rfl) (fun p e s m args below meth c C E => ?_)
  refine gc_aloadn C 0 0 dX11_phrases_0 rfl rfl ?_
  obtain ⟨g1, h⟩ := h
  obtain ⟨g2, h⟩ := h
  refine gc_getR C BX11 224 0 (by decide) rfl ft_224 vf_X11_10 rfl (isC_of g1 (by decide)) (oG (fR t 224 a0)) (oG_some g2) dX11_phrases_1 ?_
  obtain ⟨g3, h⟩ := h
  refine gc_callV C BX9 (y := yX9_phrasesThere) (as := []) rfl (by decide) (by decide) (c_X9_phrasesThere l D K E0 B A0 (oG (fR t 224 a0)) t _ X h) hk_X9_phrasesThere rfl vl_X11_201 kc_X9_phrasesThere (isC_of g3 (by decide)) dX11_phrases_4 (Nat.le_of_ble_eq_true rfl) (fun _ _ h => h) (qkI (fun r4 t4 h lt4 => ?_))
  exact gc_iret C E lt4 dX11_phrases_7 ⟨_, rfl, h⟩
def w_X11_allowTurn (B : Nat × Nat) (a0 : Nat) (a1 : Int32) (a2 : Int32) (a3 : Int32) (t : CS) (Q : Int32 → CS → Prop) (X : String → CS → Prop) : Prop := w_X11_requireVoice B a1 t (fun t1 => (kdC t1 a0 = 14) ∧ w_X11_requireBar B a0 a2 t1 (fun t3 => ((fR t3 224 a0) ≠ none) ∧ (kdC t3 (oG (fR t3 224 a0)) = 12) ∧ (d_X9_row (oG (fR t3 224 a0)) a1 a2 t3) ∧ (kdC t3 (v_X9_row (oG (fR t3 224 a0)) a1 a2 t3) = 11) ∧ ∀ x8 : Int32, x8 = (fI t3 178 (v_X9_row (oG (fR t3 224 a0)) a1 a2 t3)) → (gb a3) ∧ ∀ t10 : CS, t10 = usI t3 178 (v_X9_row (oG (fR t3 224 a0)) a1 a2 t3) a3 → ((fR t10 224 a0) ≠ none) ∧ (kdC t10 (oG (fR t10 224 a0)) = 12) ∧ ∀ t13 : CS, t13 = usI t10 199 (oG (fR t10 224 a0)) ((fI t10 199 (oG (fR t10 224 a0))) + 1) → (gb x8) ∧ Q x8 t13) X) X
set_option maxRecDepth 20000 in
set_option maxHeartbeats 2000000 in
theorem c_X11_allowTurn (l : Launch) (D : va_G) (K : Nat → ClassId) (E0 : Nat) (B : Nat × Nat) (A0 : Nat → Prop) (a0 : Nat) (a1 : Int32) (a2 : Int32) (a3 : Int32) (t : CS) (Q : Int32 → CS → Prop) (X : String → CS → Prop) (h : w_X11_allowTurn B a0 a1 a2 a3 t Q X) : MetC l yX11_allowTurn cX11_allowTurn 6 (some .boolean) 8 [.ref a0, .int a1, .int a2, .int a3] (qI Q) X D K E0 B A0 t := by
  unfold w_X11_allowTurn at h
  refine gc_start (by decide) rfl (Nat.le_of_ble_eq_true rfl) (fun p e s m args below meth c C E => ?_)
  refine gc_iloadn C 1 1 dX11_allowTurn_0 rfl rfl ?_
  refine gc_callS C (y := yX11_requireVoice) (as := [.int a1]) rfl (by decide) (by decide) (c_X11_requireVoice l D K E0 B A0 a1 t _ X h) hk_X11_requireVoice rfl vl_X11_102 kc_X11_requireVoice dX11_allowTurn_1 (Nat.le_of_ble_eq_true rfl) (fun _ _ h => h) (qkV (fun t1 h lt1 => ?_))
  refine gc_aloadn C 0 0 dX11_allowTurn_4 rfl rfl ?_
  refine gc_iloadn C 2 2 dX11_allowTurn_5 rfl rfl ?_
  obtain ⟨g2, h⟩ := h
  refine gc_callV C BX11 (y := yX11_requireBar) (as := [.int a2]) rfl (by decide) (by decide) (c_X11_requireBar l D K E0 B A0 a0 a2 t1 _ X h) hk_X11_requireBar rfl vl_X11_62 kc_X11_requireBar (isC_of g2 (by decide)) dX11_allowTurn_6 (Nat.le_of_ble_eq_true rfl) (fun _ _ h => h) (qkV (fun t3 h lt3 => ?_))
  refine gc_aloadn C 0 0 dX11_allowTurn_9 rfl rfl ?_
  obtain ⟨g4, h⟩ := h
  refine gc_getR C BX11 224 0 (by decide) rfl ft_224 vf_X11_10 rfl (isC_of (kdLe.k lt3 g2 (by decide) (by decide)) (by decide)) (oG (fR t3 224 a0)) (oG_some g4) dX11_allowTurn_10 ?_
  refine gc_iloadn C 1 1 dX11_allowTurn_13 rfl rfl ?_
  refine gc_iloadn C 2 2 dX11_allowTurn_14 rfl rfl ?_
  obtain ⟨g5, h⟩ := h
  obtain ⟨g6, h⟩ := h
  refine gc_callV C BX9 (y := yX9_row) (as := [.int a1, .int a2]) rfl (by decide) (by decide) (c_X9_row l D K E0 B A0 (oG (fR t3 224 a0)) a1 a2 t3 g6) hk_X9_row rfl vl_X11_110 kc_X9_row (isC_of g5 (by decide)) dX11_allowTurn_15 (Nat.le_of_ble_eq_true rfl) (fun _ _ h => h.elim) (qkRP ?_)
  refine gc_astore C [(4, .ref (v_X9_row (oG (fR t3 224 a0)) a1 a2 t3)), (0, .ref a0), (1, .int a1), (2, .int a2), (3, .int a3)] dX11_allowTurn_18 (by decide) rfl ?_
  refine gc_aload C 0 dX11_allowTurn_20 rfl ?_
  obtain ⟨g7, h⟩ := h
  refine gc_getI C BX8 178 2 (by decide) rfl ft_178 vf_X11_204 rfl (isC_of g7 (by decide)) dX11_allowTurn_22 ?_
  refine gc_nameI (fun x8 ex8 => ?_)
  have h := h x8 ex8
  refine gc_istore C [(5, .int x8), (4, .ref (v_X9_row (oG (fR t3 224 a0)) a1 a2 t3)), (0, .ref a0), (1, .int a1), (2, .int a2), (3, .int a3)] dX11_allowTurn_25 (by decide) rfl ?_
  refine gc_aload C 1 dX11_allowTurn_27 rfl ?_
  refine gc_iloadn C 5 3 dX11_allowTurn_29 rfl rfl ?_
  obtain ⟨g9, h⟩ := h
  refine gc_putI C BX8 178 2 (by decide) rfl .boolean ft_178 vf_X11_204 rfl rfl (by decide +kernel) (gb_nar g9) (gb_fit g9) (isC_of g7 (by decide)) dX11_allowTurn_30 ?_
  refine gc_nameS (fun t10 et10 => ?_)
  have h := h t10 et10
  have lt10 : kdLe t3 t10 := kdLe.eq (by rw [et10]; rfl)
  refine gc_aloadn C 2 0 dX11_allowTurn_33 rfl rfl ?_
  obtain ⟨g11, h⟩ := h
  refine gc_getR C BX11 224 0 (by decide) rfl ft_224 vf_X11_10 rfl (isC_of (kdLe.k (kdLe.tr lt3 lt10) g2 (by decide) (by decide)) (by decide)) (oG (fR t10 224 a0)) (oG_some g11) dX11_allowTurn_34 ?_
  refine gc_dup C dX11_allowTurn_37 rfl ?_
  obtain ⟨g12, h⟩ := h
  refine gc_getI C BX9 199 7 (by decide) rfl ft_199 vf_X11_58 rfl (isC_of g12 (by decide)) dX11_allowTurn_38 ?_
  refine gc_iconst C 1 dX11_allowTurn_41 (by decide) ?_
  refine gc_iadd C dX11_allowTurn_42 ?_
  refine gc_putI C BX9 199 7 (by decide) rfl .int ft_199 vf_X11_58 rfl rfl (by decide +kernel) rfl rfl (isC_of g12 (by decide)) dX11_allowTurn_43 ?_
  refine gc_nameS (fun t13 et13 => ?_)
  have h := h t13 et13
  have lt13 : kdLe t10 t13 := kdLe.eq (by rw [et13]; rfl)
  refine gc_iload C 0 dX11_allowTurn_46 rfl ?_
  obtain ⟨g14, h⟩ := h
  exact gc_zret C E g14 (kdLe.tr lt1 (kdLe.tr lt3 (kdLe.tr lt10 lt13))) dX11_allowTurn_48 ⟨_, rfl, h⟩
def w_X9_isRepeated_L2 (a0 : Nat) (a1 : Int32) (a2 : Int32) (t : CS) (Q : Int32 → CS → Prop) (K2 : Int32 → Prop) (z2 : Int32) : Prop := (kdC t a0 = 12) ∧ (((nI (fL t 194 a0).length) ≤ z2) → Q 0 t) ∧ (¬ ((nI (fL t 194 a0).length) ≤ z2) → (lIn t 194 a0 z2) ∧ (kdC t (lG t 194 a0 z2) = 10) ∧ (((a2 < (fI t 160 (lG t 194 a0 z2))) ∨ ((fI t 161 (lG t 194 a0 z2)) < a1)) → K2 (z2 + 1)) ∧ (¬ ((a2 < (fI t 160 (lG t 194 a0 z2))) ∨ ((fI t 161 (lG t 194 a0 z2)) < a1)) → Q 1 t))
def w_X9_isRepeated (B : Nat × Nat) (a0 : Nat) (a1 : Int32) (a2 : Int32) (t : CS) (Q : Int32 → CS → Prop) (X : String → CS → Prop) : Prop := ∃ n, lp (w_X9_isRepeated_L2 a0 a1 a2 t Q) n 0
set_option maxRecDepth 20000 in
set_option maxHeartbeats 2000000 in
theorem c_X9_isRepeated (l : Launch) (D : va_G) (K : Nat → ClassId) (E0 : Nat) (B : Nat × Nat) (A0 : Nat → Prop) (a0 : Nat) (a1 : Int32) (a2 : Int32) (t : CS) (Q : Int32 → CS → Prop) (X : String → CS → Prop) (h : w_X9_isRepeated B a0 a1 a2 t Q X) : MetC l yX9_isRepeated cX9_isRepeated 5 (some .boolean) 3 [.ref a0, .int a1, .int a2] (qI Q) X D K E0 B A0 t := by
  unfold w_X9_isRepeated at h
  refine gc_start (by decide) rfl (Nat.le_of_ble_eq_true rfl) (fun p e s m args below meth c C E => ?_)
  refine gc_iconst C 0 dX9_isRepeated_0 (by decide) ?_
  refine gc_istoren C 3 [(3, .int 0), (0, .ref a0), (1, .int a1), (2, .int a2)] dX9_isRepeated_1 rfl (by decide) rfl ?_
  refine gc_sub [1, 2, 3, 0] rfl ?_
  obtain ⟨n2, h⟩ := h
  have k2 : ∀ (n2 : Nat) (z2 : Int32), lp (w_X9_isRepeated_L2 a0 a1 a2 t Q) n2 z2 → GC p l e (rmC 3 B t) s m args below meth c 5 D K E0 B A0 (gc_Q below D K E0 A0 (qI Q) X args s t (rmC 3 B t)) t 2 [(0, .ref a0), (1, .int a1), (2, .int a2), (3, .int z2)] [] := by
    intro n2
    induction n2 with
    | zero => intro z2 h; exact h.elim
    | succ n2 ih2 =>
      intro z2 h
      have h : w_X9_isRepeated_L2 a0 a1 a2 t Q (lp (w_X9_isRepeated_L2 a0 a1 a2 t Q) n2) z2 := h
      unfold w_X9_isRepeated_L2 at h
      refine gc_iloadn C 3 3 dX9_isRepeated_2 rfl rfl ?_
      refine gc_aloadn C 0 0 dX9_isRepeated_3 rfl rfl ?_
      obtain ⟨g1, h⟩ := h
      refine gc_getE C BX9 194 2 (by decide) rfl fe_194 vf_X9_21 rfl g1 dX9_isRepeated_4 ?_
      refine gc_lsSize C (ci := 12) (k0 := 2) 194 (by decide) (by decide) (by decide) rfl ft_194 rfl (by decide) g1 vj_X9_38 dX9_isRepeated_7 (Nat.le_of_ble_eq_true rfl) ?_
      refine gc_icmp_ge C 52 dX9_isRepeated_10 (by decide) (fun c10_1 => ?_) (fun c10_1 => ?_)
      · have h := h.1 c10_1
        refine gc_iconst C 0 dX9_isRepeated_52 (by decide) ?_
        exact gc_zret C E (Or.inl rfl) (kdLe.rf _) dX9_isRepeated_53 ⟨_, rfl, h⟩
      · have h := h.2 c10_1
        refine gc_aloadn C 0 0 dX9_isRepeated_13 rfl rfl ?_
        refine gc_getE C BX9 194 2 (by decide) rfl fe_194 vf_X9_21 rfl g1 dX9_isRepeated_14 ?_
        refine gc_iloadn C 3 3 dX9_isRepeated_17 rfl rfl ?_
        obtain ⟨g2, h⟩ := h
        refine gc_lsGet C (ci := 12) (k0 := 2) 194 (by decide) (by decide) (by decide) rfl ft_194 rfl (by decide) g1 g2 vj_X9_42 dX9_isRepeated_18 (Nat.le_of_ble_eq_true rfl) ?_
        obtain ⟨g3, h⟩ := h
        refine gc_cast C BX7 v_i276 (isC_of g3 (by decide)) dX9_isRepeated_21 ?_
        refine gc_astore C [(4, .ref (lG t 194 a0 z2)), (0, .ref a0), (1, .int a1), (2, .int a2), (3, .int z2)] dX9_isRepeated_24 (by decide) rfl ?_
        refine gc_aload C 0 dX9_isRepeated_26 rfl ?_
        refine gc_getI C BX7 160 0 (by decide) rfl ft_160 vf_X9_125 rfl (isC_of g3 (by decide)) dX9_isRepeated_28 ?_
        refine gc_iloadn C 3 2 dX9_isRepeated_31 rfl rfl ?_
        have kt13 : ((a2 < (fI t 160 (lG t 194 a0 z2))) ∨ ((fI t 161 (lG t 194 a0 z2)) < a1)) → GC p l e (rmC 3 B t) s m args below meth c 5 D K E0 B A0 (gc_Q below D K E0 A0 (qI Q) X args s t (rmC 3 B t)) t 46 [(4, .ref (lG t 194 a0 z2)), (0, .ref a0), (1, .int a1), (2, .int a2), (3, .int z2)] [] := by
          intro hc
          have h := h.1 hc
          refine gc_iinc C 4 (z2 + 1) [(3, .int (z2 + 1)), (4, .ref (lG t 194 a0 z2)), (0, .ref a0), (1, .int a1), (2, .int a2)] dX9_isRepeated_46 rfl rfl (by decide) rfl ?_
          refine gc_goto C 2 dX9_isRepeated_49 (by decide) ?_
          refine gc_sub [2, 3, 4, 0] rfl ?_
          have h9 := ih2 (z2 + 1) h
          exact h9
        have kf13 : ¬ ((a2 < (fI t 160 (lG t 194 a0 z2))) ∨ ((fI t 161 (lG t 194 a0 z2)) < a1)) → GC p l e (rmC 3 B t) s m args below meth c 5 D K E0 B A0 (gc_Q below D K E0 A0 (qI Q) X args s t (rmC 3 B t)) t 44 [(4, .ref (lG t 194 a0 z2)), (0, .ref a0), (1, .int a1), (2, .int a2), (3, .int z2)] [] := by
          intro hc
          have h := h.2 hc
          refine gc_iconst C 1 dX9_isRepeated_44 (by decide) ?_
          exact gc_zret C E (Or.inr rfl) (kdLe.rf _) dX9_isRepeated_45 ⟨_, rfl, h⟩
        refine gc_icmp_gt C 46 dX9_isRepeated_32 (by decide) (fun c32_2 => ?_) (fun c32_2 => ?_)
        · exact kt13 (Or.inl c32_2)
        · refine gc_aload C 0 dX9_isRepeated_35 rfl ?_
          refine gc_getI C BX7 161 1 (by decide) rfl ft_161 vf_X9_128 rfl (isC_of g3 (by decide)) dX9_isRepeated_37 ?_
          refine gc_iloadn C 2 1 dX9_isRepeated_40 rfl rfl ?_
          refine gc_icmp_lt C 46 dX9_isRepeated_41 (by decide) (fun c41_3 => ?_) (fun c41_3 => ?_)
          · exact kt13 (Or.inr c41_3)
          · exact kf13 (fun q0 => Or.elim q0 c32_2 c41_3)
  exact k2 n2 0 h
def w_X7_init (B : Nat × Nat) (a0 : Nat) (a1 : Int32) (a2 : Int32) (a3 : Int32) (t : CS) (Q : CS → Prop) (X : String → CS → Prop) : Prop := (kdC t a0 = 10) ∧ ∀ t2 : CS, t2 = usI t 160 a0 a1 → ∀ t3 : CS, t3 = usI t2 161 a0 a2 → ∀ t4 : CS, t4 = usI t3 162 a0 a3 → Q t4
set_option maxRecDepth 20000 in
set_option maxHeartbeats 2000000 in
theorem c_X7_init (l : Launch) (D : va_G) (K : Nat → ClassId) (E0 : Nat) (B : Nat × Nat) (A0 : Nat → Prop) (a0 : Nat) (a1 : Int32) (a2 : Int32) (a3 : Int32) (t : CS) (Q : CS → Prop) (X : String → CS → Prop) (h : w_X7_init B a0 a1 a2 a3 t Q X) : MetC l yX7_init cX7_init 4 none 1 [.ref a0, .int a1, .int a2, .int a3] (qV Q) X D K E0 B A0 t := by
  unfold w_X7_init at h
  refine gc_start (by decide) rfl (Nat.le_of_ble_eq_true rfl) (fun p e s m args below meth c C E => ?_)
  refine gc_aloadn C 0 0 dX7_init_0 rfl rfl ?_
  refine gc_objInit C rfl (by decide) vo_X7_1 (Nat.le_of_ble_eq_true rfl) dX7_init_1 ?_
  refine gc_aloadn C 0 0 dX7_init_4 rfl rfl ?_
  refine gc_iloadn C 1 1 dX7_init_5 rfl rfl ?_
  obtain ⟨g1, h⟩ := h
  refine gc_putIF C BX7 160 0 (by decide) rfl .int ft_160 vf_X7_7 rfl rfl E.2 rfl (by decide +kernel) rfl rfl (isC_of g1 (by decide)) dX7_init_6 ?_
  refine gc_nameS (fun t2 et2 => ?_)
  have h := h t2 et2
  have lt2 : kdLe t t2 := kdLe.eq (by rw [et2]; rfl)
  refine gc_aloadn C 0 0 dX7_init_9 rfl rfl ?_
  refine gc_iloadn C 2 2 dX7_init_10 rfl rfl ?_
  refine gc_putIF C BX7 161 1 (by decide) rfl .int ft_161 vf_X7_13 rfl rfl E.2 rfl (by decide +kernel) rfl rfl (isC_of (kdLe.k lt2 g1 (by decide) (by decide)) (by decide)) dX7_init_11 ?_
  refine gc_nameS (fun t3 et3 => ?_)
  have h := h t3 et3
  have lt3 : kdLe t2 t3 := kdLe.eq (by rw [et3]; rfl)
  refine gc_aloadn C 0 0 dX7_init_14 rfl rfl ?_
  refine gc_iloadn C 3 3 dX7_init_15 rfl rfl ?_
  refine gc_putIF C BX7 162 2 (by decide) rfl .int ft_162 vf_X7_16 rfl rfl E.2 rfl (by decide +kernel) rfl rfl (isC_of (kdLe.k (kdLe.tr lt2 lt3) g1 (by decide) (by decide)) (by decide)) dX7_init_16 ?_
  refine gc_nameS (fun t4 et4 => ?_)
  have h := h t4 et4
  have lt4 : kdLe t3 t4 := kdLe.eq (by rw [et4]; rfl)
  exact gc_vret C E (kdLe.tr lt2 (kdLe.tr lt3 lt4)) dX7_init_19 ⟨rfl, h⟩
def w_X11_addRepeat (B : Nat × Nat) (a0 : Nat) (a1 : Int32) (a2 : Int32) (a3 : Int32) (t : CS) (Q : Int32 → CS → Prop) (X : String → CS → Prop) : Prop := (kdC t a0 = 14) ∧ w_X11_requireBar B a0 a1 t (fun t2 => w_X11_requireBar B a0 a2 t2 (fun t3 => ((a1 ≤ a2) → w_X11_requireRange B a3 0 (a2 - a1) t3 (fun t4 => ((fR t4 224 a0) ≠ none) ∧ (kdC t4 (oG (fR t4 224 a0)) = 12) ∧ w_X9_isRepeated B (oG (fR t4 224 a0)) a1 a2 t4 (fun r7 t7 => ((r7 = 0) → ((fR t7 224 a0) ≠ none) ∧ (kdC t7 (oG (fR t7 224 a0)) = 12) ∧ (szC t7 + 1 ≤ B.1 ∧ nsC t7 + cNF 10 ≤ B.2) ∧ ∀ _ : kdC t7 (szC t7) = 0, ∀ t12 : CS, t12 = newO t7 10 → w_X7_init B (szC t7) a1 a2 a3 t12 (fun t13 => (lOK t13 194 (oG (fR t7 224 a0))) ∧ (kdC t13 (szC t7) = 10) ∧ (szC t13 + lcA t13 194 (oG (fR t7 224 a0)) ≤ B.1 ∧ nsC t13 + lcS t13 194 (oG (fR t7 224 a0)) ≤ B.2) ∧ ∀ sz17 ns17 : Nat, szC t13 ≤ sz17 → sz17 ≤ szC t13 + lcA t13 194 (oG (fR t7 224 a0)) → ns17 ≤ nsC t13 + lcS t13 194 (oG (fR t7 224 a0)) → ∀ t18 : CS, t18 = usL t13 194 (oG (fR t7 224 a0)) (fL t13 194 (oG (fR t7 224 a0)) ++ [(szC t7)]) (capA t13 194 (oG (fR t7 224 a0))) sz17 ns17 → ((fR t18 224 a0) ≠ none) ∧ (kdC t18 (oG (fR t18 224 a0)) = 12) ∧ ∀ t21 : CS, t21 = usI t18 199 (oG (fR t18 224 a0)) ((fI t18 199 (oG (fR t18 224 a0))) + 1) → ((fR t21 224 a0) ≠ none) ∧ (kdC t21 (oG (fR t21 224 a0)) = 12) ∧ Q (nI (fL t21 194 (oG (fR t21 224 a0))).length) t21) X) ∧ (¬ (r7 = 0) → (szC t7 + 1 ≤ B.1 ∧ nsC t7 + 6 ≤ B.2) ∧ ∀ sz ns : Nat, X "java/lang/IllegalStateException" (rsz t7 sz ns))) X) X) ∧ (¬ (a1 ≤ a2) → (szC t3 + 1 ≤ B.1 ∧ nsC t3 + 6 ≤ B.2) ∧ ∀ sz ns : Nat, X "java/lang/IllegalArgumentException" (rsz t3 sz ns))) X) X
set_option maxRecDepth 20000 in
set_option maxHeartbeats 2000000 in
theorem c_X11_addRepeat (l : Launch) (D : va_G) (K : Nat → ClassId) (E0 : Nat) (B : Nat × Nat) (A0 : Nat → Prop) (a0 : Nat) (a1 : Int32) (a2 : Int32) (a3 : Int32) (t : CS) (Q : Int32 → CS → Prop) (X : String → CS → Prop) (h : w_X11_addRepeat B a0 a1 a2 a3 t Q X) : MetC l yX11_addRepeat cX11_addRepeat 4 (some .int) 8 [.ref a0, .int a1, .int a2, .int a3] (qI Q) X D K E0 B A0 t := by
  unfold w_X11_addRepeat at h
  refine gc_start (by decide) rfl (Nat.le_of_ble_eq_true rfl) (fun p e s m args below meth c C E => ?_)
  refine gc_aloadn C 0 0 dX11_addRepeat_0 rfl rfl ?_
  refine gc_iloadn C 1 1 dX11_addRepeat_1 rfl rfl ?_
  obtain ⟨g1, h⟩ := h
  refine gc_callV C BX11 (y := yX11_requireBar) (as := [.int a1]) rfl (by decide) (by decide) (c_X11_requireBar l D K E0 B A0 a0 a1 t _ X h) hk_X11_requireBar rfl vl_X11_62 kc_X11_requireBar (isC_of g1 (by decide)) dX11_addRepeat_2 (Nat.le_of_ble_eq_true rfl) (fun _ _ h => h) (qkV (fun t2 h lt2 => ?_))
  refine gc_aloadn C 0 0 dX11_addRepeat_5 rfl rfl ?_
  refine gc_iloadn C 2 2 dX11_addRepeat_6 rfl rfl ?_
  refine gc_callV C BX11 (y := yX11_requireBar) (as := [.int a2]) rfl (by decide) (by decide) (c_X11_requireBar l D K E0 B A0 a0 a2 t2 _ X h) hk_X11_requireBar rfl vl_X11_62 kc_X11_requireBar (isC_of (kdLe.k lt2 g1 (by decide) (by decide)) (by decide)) dX11_addRepeat_7 (Nat.le_of_ble_eq_true rfl) (fun _ _ h => h) (qkV (fun t3 h lt3 => ?_))
  refine gc_iloadn C 2 2 dX11_addRepeat_10 rfl rfl ?_
  refine gc_iloadn C 1 1 dX11_addRepeat_11 rfl rfl ?_
  refine gc_icmp_ge C 25 dX11_addRepeat_12 (by decide) (fun c12_1 => ?_) (fun c12_1 => ?_)
  · have h := h.1 c12_1
    refine gc_iloadn C 3 3 dX11_addRepeat_25 rfl rfl ?_
    refine gc_iconst C 0 dX11_addRepeat_26 (by decide) ?_
    refine gc_iloadn C 2 2 dX11_addRepeat_27 rfl rfl ?_
    refine gc_iloadn C 1 1 dX11_addRepeat_28 rfl rfl ?_
    refine gc_isub C dX11_addRepeat_29 ?_
    refine gc_callS C (y := yX11_requireRange) (as := [.int a3, .int 0, .int (a2 - a1)]) rfl (by decide) (by decide) (c_X11_requireRange l D K E0 B A0 a3 0 (a2 - a1) t3 _ X h) hk_X11_requireRange rfl vl_X11_88 kc_X11_requireRange dX11_addRepeat_30 (Nat.le_of_ble_eq_true rfl) (fun _ _ h => h) (qkV (fun t4 h lt4 => ?_))
    refine gc_aloadn C 0 0 dX11_addRepeat_33 rfl rfl ?_
    obtain ⟨g5, h⟩ := h
    refine gc_getR C BX11 224 0 (by decide) rfl ft_224 vf_X11_10 rfl (isC_of (kdLe.k (kdLe.tr lt2 (kdLe.tr lt3 lt4)) g1 (by decide) (by decide)) (by decide)) (oG (fR t4 224 a0)) (oG_some g5) dX11_addRepeat_34 ?_
    refine gc_iloadn C 1 1 dX11_addRepeat_37 rfl rfl ?_
    refine gc_iloadn C 2 2 dX11_addRepeat_38 rfl rfl ?_
    obtain ⟨g6, h⟩ := h
    refine gc_callV C BX9 (y := yX9_isRepeated) (as := [.int a1, .int a2]) rfl (by decide) (by decide) (c_X9_isRepeated l D K E0 B A0 (oG (fR t4 224 a0)) a1 a2 t4 _ X h) hk_X9_isRepeated rfl vl_X11_209 kc_X9_isRepeated (isC_of g6 (by decide)) dX11_addRepeat_39 (Nat.le_of_ble_eq_true rfl) (fun _ _ h => h) (qkI (fun r7 t7 h lt7 => ?_))
    refine gc_if_eq C 55 dX11_addRepeat_42 (by decide) (fun c42_2 => ?_) (fun c42_2 => ?_)
    · have h := h.1 c42_2
      refine gc_aloadn C 0 0 dX11_addRepeat_55 rfl rfl ?_
      obtain ⟨g8, h⟩ := h
      refine gc_getR C BX11 224 0 (by decide) rfl ft_224 vf_X11_10 rfl (isC_of (kdLe.k (kdLe.tr lt2 (kdLe.tr lt3 (kdLe.tr lt4 lt7))) g1 (by decide) (by decide)) (by decide)) (oG (fR t7 224 a0)) (oG_some g8) dX11_addRepeat_56 ?_
      obtain ⟨g9, h⟩ := h
      refine gc_getE C BX9 194 2 (by decide) rfl fe_194 vf_X11_214 rfl g9 dX11_addRepeat_59 ?_
      obtain ⟨g10, h⟩ := h
      refine gc_new C BX7 hd_X7 vn_X11_217 g10 dX11_addRepeat_62 (fun hz11 => ?_)
      have h := h hz11
      refine gc_nameS (fun t12 et12 => ?_)
      have h := h t12 et12
      have lt12 : kdLe t7 t12 := by rw [et12]; exact newO_le hz11
      refine gc_dup C dX11_addRepeat_65 rfl ?_
      refine gc_iloadn C 1 1 dX11_addRepeat_66 rfl rfl ?_
      refine gc_iloadn C 2 2 dX11_addRepeat_67 rfl rfl ?_
      refine gc_iloadn C 3 3 dX11_addRepeat_68 rfl rfl ?_
      refine gc_callI C (y := yX7_init) (as := [.int a1, .int a2, .int a3]) rfl (by decide) (by decide) (c_X7_init l D K E0 B A0 (szC t7) a1 a2 a3 t12 _ X h) hk_X7_init rfl rfl vl_X11_219 kc_X7_init dX11_addRepeat_69 (Nat.le_of_ble_eq_true rfl) (fun _ _ h => h) (qkV (fun t13 h lt13 => ?_))
      obtain ⟨g14, h⟩ := h
      obtain ⟨g15, h⟩ := h
      obtain ⟨g16, h⟩ := h
      refine gc_lsAdd C (ci := 12) (k0 := 2) 194 (by decide) (by decide) (by decide) rfl ft_194 rfl (by decide) (ce := 10) (rr := (RX7, TX7, 3)) (by decide +kernel) (by decide) (by decide) rfl n_i1733 (kdLe.k (kdLe.tr lt12 lt13) g9 (by decide) (by decide)) g14 g15 g16 vj_X11_52 dX11_addRepeat_72 (Nat.le_of_ble_eq_true rfl) (fun sz17 ns17 y17a y17b y17c => ?_)
      have h := h sz17 ns17 y17a y17b y17c
      refine gc_nameS (fun t18 et18 => ?_)
      have h := h t18 et18
      have lt18 : kdLe t13 t18 := kdLe.eq (by rw [et18]; rfl)
      refine gc_pop C dX11_addRepeat_75 rfl ?_
      refine gc_aloadn C 0 0 dX11_addRepeat_76 rfl rfl ?_
      obtain ⟨g19, h⟩ := h
      refine gc_getR C BX11 224 0 (by decide) rfl ft_224 vf_X11_10 rfl (isC_of (kdLe.k (kdLe.tr lt2 (kdLe.tr lt3 (kdLe.tr lt4 (kdLe.tr lt7 (kdLe.tr lt12 (kdLe.tr lt13 lt18)))))) g1 (by decide) (by decide)) (by decide)) (oG (fR t18 224 a0)) (oG_some g19) dX11_addRepeat_77 ?_
      refine gc_dup C dX11_addRepeat_80 rfl ?_
      obtain ⟨g20, h⟩ := h
      refine gc_getI C BX9 199 7 (by decide) rfl ft_199 vf_X11_58 rfl (isC_of g20 (by decide)) dX11_addRepeat_81 ?_
      refine gc_iconst C 1 dX11_addRepeat_84 (by decide) ?_
      refine gc_iadd C dX11_addRepeat_85 ?_
      refine gc_putI C BX9 199 7 (by decide) rfl .int ft_199 vf_X11_58 rfl rfl (by decide +kernel) rfl rfl (isC_of g20 (by decide)) dX11_addRepeat_86 ?_
      refine gc_nameS (fun t21 et21 => ?_)
      have h := h t21 et21
      have lt21 : kdLe t18 t21 := kdLe.eq (by rw [et21]; rfl)
      refine gc_aloadn C 0 0 dX11_addRepeat_89 rfl rfl ?_
      obtain ⟨g22, h⟩ := h
      refine gc_getR C BX11 224 0 (by decide) rfl ft_224 vf_X11_10 rfl (isC_of (kdLe.k (kdLe.tr lt2 (kdLe.tr lt3 (kdLe.tr lt4 (kdLe.tr lt7 (kdLe.tr lt12 (kdLe.tr lt13 (kdLe.tr lt18 lt21))))))) g1 (by decide) (by decide)) (by decide)) (oG (fR t21 224 a0)) (oG_some g22) dX11_addRepeat_90 ?_
      obtain ⟨g23, h⟩ := h
      refine gc_getE C BX9 194 2 (by decide) rfl fe_194 vf_X11_214 rfl g23 dX11_addRepeat_93 ?_
      refine gc_lsSize C (ci := 12) (k0 := 2) 194 (by decide) (by decide) (by decide) rfl ft_194 rfl (by decide) g23 vj_X11_186 dX11_addRepeat_96 (Nat.le_of_ble_eq_true rfl) ?_
      exact gc_iret C E (kdLe.tr lt2 (kdLe.tr lt3 (kdLe.tr lt4 (kdLe.tr lt7 (kdLe.tr lt12 (kdLe.tr lt13 (kdLe.tr lt18 lt21))))))) dX11_addRepeat_99 ⟨_, rfl, h⟩
    · have h := h.2 c42_2
      obtain ⟨g24, h⟩ := h
      exact gc_throwS C (text := "another repeat has one of the bars") rfl (by decide) (Nat.le_of_ble_eq_true rfl) ex_X11_37_41 (by decide +kernel) dX11_addRepeat_45 dX11_addRepeat_48 dX11_addRepeat_49 dX11_addRepeat_51 dX11_addRepeat_54 g24 h
  · have h := h.2 c12_1
    obtain ⟨g25, h⟩ := h
    exact gc_throwS C (text := "the repeat goes backwards") rfl (by decide) (Nat.le_of_ble_eq_true rfl) ex_X11_105_109 (by decide +kernel) dX11_addRepeat_15 dX11_addRepeat_18 dX11_addRepeat_19 dX11_addRepeat_21 dX11_addRepeat_24 g25 h
def w_X9_repeatFrom_L2 (a0 : Nat) (a1 : Int32) (t : CS) (Q : Int32 → CS → Prop) (K2 : Int32 → Prop) (z2 : Int32) : Prop := (kdC t a0 = 12) ∧ (((nI (fL t 194 a0).length) ≤ z2) → Q (-1) t) ∧ (¬ ((nI (fL t 194 a0).length) ≤ z2) → (lIn t 194 a0 z2) ∧ (kdC t (lG t 194 a0 z2) = 10) ∧ (((fI t 160 (lG t 194 a0 z2)) = a1) → Q z2 t) ∧ (¬ ((fI t 160 (lG t 194 a0 z2)) = a1) → K2 (z2 + 1)))
def w_X9_repeatFrom (B : Nat × Nat) (a0 : Nat) (a1 : Int32) (t : CS) (Q : Int32 → CS → Prop) (X : String → CS → Prop) : Prop := ∃ n, lp (w_X9_repeatFrom_L2 a0 a1 t Q) n 0
set_option maxRecDepth 20000 in
set_option maxHeartbeats 2000000 in
theorem c_X9_repeatFrom (l : Launch) (D : va_G) (K : Nat → ClassId) (E0 : Nat) (B : Nat × Nat) (A0 : Nat → Prop) (a0 : Nat) (a1 : Int32) (t : CS) (Q : Int32 → CS → Prop) (X : String → CS → Prop) (h : w_X9_repeatFrom B a0 a1 t Q X) : MetC l yX9_repeatFrom cX9_repeatFrom 3 (some .int) 3 [.ref a0, .int a1] (qI Q) X D K E0 B A0 t := by
  unfold w_X9_repeatFrom at h
  refine gc_start (by decide) rfl (Nat.le_of_ble_eq_true rfl) (fun p e s m args below meth c C E => ?_)
  refine gc_iconst C 0 dX9_repeatFrom_0 (by decide) ?_
  refine gc_istoren C 2 [(2, .int 0), (0, .ref a0), (1, .int a1)] dX9_repeatFrom_1 rfl (by decide) rfl ?_
  refine gc_sub [1, 2, 0] rfl ?_
  obtain ⟨n2, h⟩ := h
  have k2 : ∀ (n2 : Nat) (z2 : Int32), lp (w_X9_repeatFrom_L2 a0 a1 t Q) n2 z2 → GC p l e (rmC 3 B t) s m args below meth c 3 D K E0 B A0 (gc_Q below D K E0 A0 (qI Q) X args s t (rmC 3 B t)) t 2 [(0, .ref a0), (1, .int a1), (2, .int z2)] [] := by
    intro n2
    induction n2 with
    | zero => intro z2 h; exact h.elim
    | succ n2 ih2 =>
      intro z2 h
      have h : w_X9_repeatFrom_L2 a0 a1 t Q (lp (w_X9_repeatFrom_L2 a0 a1 t Q) n2) z2 := h
      unfold w_X9_repeatFrom_L2 at h
      refine gc_iloadn C 2 2 dX9_repeatFrom_2 rfl rfl ?_
      refine gc_aloadn C 0 0 dX9_repeatFrom_3 rfl rfl ?_
      obtain ⟨g1, h⟩ := h
      refine gc_getE C BX9 194 2 (by decide) rfl fe_194 vf_X9_21 rfl g1 dX9_repeatFrom_4 ?_
      refine gc_lsSize C (ci := 12) (k0 := 2) 194 (by decide) (by decide) (by decide) rfl ft_194 rfl (by decide) g1 vj_X9_38 dX9_repeatFrom_7 (Nat.le_of_ble_eq_true rfl) ?_
      refine gc_icmp_ge C 39 dX9_repeatFrom_10 (by decide) (fun c10_1 => ?_) (fun c10_1 => ?_)
      · have h := h.1 c10_1
        refine gc_iconst C (-1) dX9_repeatFrom_39 (by decide) ?_
        exact gc_iret C E (kdLe.rf _) dX9_repeatFrom_40 ⟨_, rfl, h⟩
      · have h := h.2 c10_1
        refine gc_aloadn C 0 0 dX9_repeatFrom_13 rfl rfl ?_
        refine gc_getE C BX9 194 2 (by decide) rfl fe_194 vf_X9_21 rfl g1 dX9_repeatFrom_14 ?_
        refine gc_iloadn C 2 2 dX9_repeatFrom_17 rfl rfl ?_
        obtain ⟨g2, h⟩ := h
        refine gc_lsGet C (ci := 12) (k0 := 2) 194 (by decide) (by decide) (by decide) rfl ft_194 rfl (by decide) g1 g2 vj_X9_42 dX9_repeatFrom_18 (Nat.le_of_ble_eq_true rfl) ?_
        obtain ⟨g3, h⟩ := h
        refine gc_cast C BX7 v_i276 (isC_of g3 (by decide)) dX9_repeatFrom_21 ?_
        refine gc_getI C BX7 160 0 (by decide) rfl ft_160 vf_X9_125 rfl (isC_of g3 (by decide)) dX9_repeatFrom_24 ?_
        refine gc_iloadn C 1 1 dX9_repeatFrom_27 rfl rfl ?_
        refine gc_icmp_ne C 33 dX9_repeatFrom_28 (by decide) (fun c28_2 => ?_) (fun c28_2 => ?_)
        · have h := h.2 c28_2
          refine gc_iinc C 2 (z2 + 1) [(2, .int (z2 + 1)), (0, .ref a0), (1, .int a1)] dX9_repeatFrom_33 rfl rfl (by decide) rfl ?_
          refine gc_goto C 2 dX9_repeatFrom_36 (by decide) ?_
          refine gc_sub [1, 2, 0] rfl ?_
          have h9 := ih2 (z2 + 1) h
          exact h9
        · have h := h.1 c28_2
          refine gc_iloadn C 2 2 dX9_repeatFrom_31 rfl rfl ?_
          exact gc_iret C E (kdLe.rf _) dX9_repeatFrom_32 ⟨_, rfl, h⟩
  exact k2 n2 0 h
def w_X11_dropRepeat (B : Nat × Nat) (a0 : Nat) (a1 : Int32) (t : CS) (Q : Int32 → CS → Prop) (X : String → CS → Prop) : Prop := (kdC t a0 = 14) ∧ w_X11_requireBar B a0 a1 t (fun t2 => ((fR t2 224 a0) ≠ none) ∧ (kdC t2 (oG (fR t2 224 a0)) = 12) ∧ w_X9_repeatFrom B (oG (fR t2 224 a0)) a1 t2 (fun r5 t5 => ((r5 = (-1)) → (szC t5 + 1 ≤ B.1 ∧ nsC t5 + 6 ≤ B.2) ∧ ∀ sz ns : Nat, X "java/lang/IllegalStateException" (rsz t5 sz ns)) ∧ (¬ (r5 = (-1)) → ((fR t5 224 a0) ≠ none) ∧ (kdC t5 (oG (fR t5 224 a0)) = 12) ∧ (lIn t5 194 (oG (fR t5 224 a0)) r5) ∧ (kdC t5 (lG t5 194 (oG (fR t5 224 a0)) r5) = 10) ∧ ∀ x11 : Int32, x11 = (fI t5 161 (lG t5 194 (oG (fR t5 224 a0)) r5)) → (lOK t5 194 (oG (fR t5 224 a0))) ∧ (lIn t5 194 (oG (fR t5 224 a0)) r5) ∧ ∀ t14 : CS, t14 = usL t5 194 (oG (fR t5 224 a0)) ((fL t5 194 (oG (fR t5 224 a0))).eraseIdx (Int32.toNatClampNeg r5)) (fC t5 194 (oG (fR t5 224 a0))) (szC t5) (nsC t5) → ((fR t14 224 a0) ≠ none) ∧ (kdC t14 (oG (fR t14 224 a0)) = 12) ∧ ∀ t17 : CS, t17 = usI t14 199 (oG (fR t14 224 a0)) ((fI t14 199 (oG (fR t14 224 a0))) + 1) → Q x11 t17)) X) X
set_option maxRecDepth 20000 in
set_option maxHeartbeats 2000000 in
theorem c_X11_dropRepeat (l : Launch) (D : va_G) (K : Nat → ClassId) (E0 : Nat) (B : Nat × Nat) (A0 : Nat → Prop) (a0 : Nat) (a1 : Int32) (t : CS) (Q : Int32 → CS → Prop) (X : String → CS → Prop) (h : w_X11_dropRepeat B a0 a1 t Q X) : MetC l yX11_dropRepeat cX11_dropRepeat 4 (some .int) 8 [.ref a0, .int a1] (qI Q) X D K E0 B A0 t := by
  unfold w_X11_dropRepeat at h
  refine gc_start (by decide) rfl (Nat.le_of_ble_eq_true rfl) (fun p e s m args below meth c C E => ?_)
  refine gc_aloadn C 0 0 dX11_dropRepeat_0 rfl rfl ?_
  refine gc_iloadn C 1 1 dX11_dropRepeat_1 rfl rfl ?_
  obtain ⟨g1, h⟩ := h
  refine gc_callV C BX11 (y := yX11_requireBar) (as := [.int a1]) rfl (by decide) (by decide) (c_X11_requireBar l D K E0 B A0 a0 a1 t _ X h) hk_X11_requireBar rfl vl_X11_62 kc_X11_requireBar (isC_of g1 (by decide)) dX11_dropRepeat_2 (Nat.le_of_ble_eq_true rfl) (fun _ _ h => h) (qkV (fun t2 h lt2 => ?_))
  refine gc_aloadn C 0 0 dX11_dropRepeat_5 rfl rfl ?_
  obtain ⟨g3, h⟩ := h
  refine gc_getR C BX11 224 0 (by decide) rfl ft_224 vf_X11_10 rfl (isC_of (kdLe.k lt2 g1 (by decide) (by decide)) (by decide)) (oG (fR t2 224 a0)) (oG_some g3) dX11_dropRepeat_6 ?_
  refine gc_iloadn C 1 1 dX11_dropRepeat_9 rfl rfl ?_
  obtain ⟨g4, h⟩ := h
  refine gc_callV C BX9 (y := yX9_repeatFrom) (as := [.int a1]) rfl (by decide) (by decide) (c_X9_repeatFrom l D K E0 B A0 (oG (fR t2 224 a0)) a1 t2 _ X h) hk_X9_repeatFrom rfl vl_X11_220 kc_X9_repeatFrom (isC_of g4 (by decide)) dX11_dropRepeat_10 (Nat.le_of_ble_eq_true rfl) (fun _ _ h => h) (qkI (fun r5 t5 h lt5 => ?_))
  refine gc_istoren C 2 [(2, .int r5), (0, .ref a0), (1, .int a1)] dX11_dropRepeat_13 rfl (by decide) rfl ?_
  refine gc_iloadn C 0 2 dX11_dropRepeat_14 rfl rfl ?_
  refine gc_iconst C (-1) dX11_dropRepeat_15 (by decide) ?_
  refine gc_icmp_ne C 29 dX11_dropRepeat_16 (by decide) (fun c16_1 => ?_) (fun c16_1 => ?_)
  · have h := h.2 c16_1
    refine gc_aloadn C 1 0 dX11_dropRepeat_29 rfl rfl ?_
    obtain ⟨g7, h⟩ := h
    refine gc_getR C BX11 224 0 (by decide) rfl ft_224 vf_X11_10 rfl (isC_of (kdLe.k (kdLe.tr lt2 lt5) g1 (by decide) (by decide)) (by decide)) (oG (fR t5 224 a0)) (oG_some g7) dX11_dropRepeat_30 ?_
    obtain ⟨g8, h⟩ := h
    refine gc_getE C BX9 194 2 (by decide) rfl fe_194 vf_X11_214 rfl g8 dX11_dropRepeat_33 ?_
    refine gc_iloadn C 0 2 dX11_dropRepeat_36 rfl rfl ?_
    obtain ⟨g9, h⟩ := h
    refine gc_lsGet C (ci := 12) (k0 := 2) 194 (by decide) (by decide) (by decide) rfl ft_194 rfl (by decide) g8 g9 vj_X11_194 dX11_dropRepeat_37 (Nat.le_of_ble_eq_true rfl) ?_
    obtain ⟨g10, h⟩ := h
    refine gc_cast C BX7 v_i1230 (isC_of g10 (by decide)) dX11_dropRepeat_40 ?_
    refine gc_getI C BX7 161 1 (by decide) rfl ft_161 vf_X11_225 rfl (isC_of g10 (by decide)) dX11_dropRepeat_43 ?_
    refine gc_nameI (fun x11 ex11 => ?_)
    have h := h x11 ex11
    refine gc_istoren C 3 [(3, .int x11), (2, .int r5), (0, .ref a0), (1, .int a1)] dX11_dropRepeat_46 rfl (by decide) rfl ?_
    refine gc_aloadn C 2 0 dX11_dropRepeat_47 rfl rfl ?_
    refine gc_getR C BX11 224 0 (by decide) rfl ft_224 vf_X11_10 rfl (isC_of (kdLe.k (kdLe.tr lt2 lt5) g1 (by decide) (by decide)) (by decide)) (oG (fR t5 224 a0)) (oG_some g7) dX11_dropRepeat_48 ?_
    refine gc_getE C BX9 194 2 (by decide) rfl fe_194 vf_X11_214 rfl g8 dX11_dropRepeat_51 ?_
    refine gc_iloadn C 1 2 dX11_dropRepeat_54 rfl rfl ?_
    obtain ⟨g12, h⟩ := h
    obtain ⟨g13, h⟩ := h
    refine gc_lsRem C (ci := 12) (k0 := 2) 194 (by decide) (by decide) (by decide) rfl ft_194 rfl (by decide) (ce := 10) (rr := (RX7, TX7, 3)) (by decide +kernel) (by decide) (by decide) rfl n_i1733 g8 g12 g13 vj_X11_228 dX11_dropRepeat_55 (Nat.le_of_ble_eq_true rfl) ?_
    refine gc_nameS (fun t14 et14 => ?_)
    have h := h t14 et14
    have lt14 : kdLe t5 t14 := kdLe.eq (by rw [et14]; rfl)
    refine gc_pop C dX11_dropRepeat_58 rfl ?_
    refine gc_aloadn C 2 0 dX11_dropRepeat_59 rfl rfl ?_
    obtain ⟨g15, h⟩ := h
    refine gc_getR C BX11 224 0 (by decide) rfl ft_224 vf_X11_10 rfl (isC_of (kdLe.k (kdLe.tr lt2 (kdLe.tr lt5 lt14)) g1 (by decide) (by decide)) (by decide)) (oG (fR t14 224 a0)) (oG_some g15) dX11_dropRepeat_60 ?_
    refine gc_dup C dX11_dropRepeat_63 rfl ?_
    obtain ⟨g16, h⟩ := h
    refine gc_getI C BX9 199 7 (by decide) rfl ft_199 vf_X11_58 rfl (isC_of g16 (by decide)) dX11_dropRepeat_64 ?_
    refine gc_iconst C 1 dX11_dropRepeat_67 (by decide) ?_
    refine gc_iadd C dX11_dropRepeat_68 ?_
    refine gc_putI C BX9 199 7 (by decide) rfl .int ft_199 vf_X11_58 rfl rfl (by decide +kernel) rfl rfl (isC_of g16 (by decide)) dX11_dropRepeat_69 ?_
    refine gc_nameS (fun t17 et17 => ?_)
    have h := h t17 et17
    have lt17 : kdLe t14 t17 := kdLe.eq (by rw [et17]; rfl)
    refine gc_iloadn C 0 3 dX11_dropRepeat_72 rfl rfl ?_
    exact gc_iret C E (kdLe.tr lt2 (kdLe.tr lt5 (kdLe.tr lt14 lt17))) dX11_dropRepeat_73 ⟨_, rfl, h⟩
  · have h := h.1 c16_1
    obtain ⟨g6, h⟩ := h
    exact gc_throwS C (text := "no repeat begins with the bar") rfl (by decide) (Nat.le_of_ble_eq_true rfl) ex_X11_37_41 (by decide +kernel) dX11_dropRepeat_19 dX11_dropRepeat_22 dX11_dropRepeat_23 dX11_dropRepeat_25 dX11_dropRepeat_28 g6 h
def w_X6_addPlace (B : Nat × Nat) (a0 : Nat) (a1 : Nat) (a2 : Int32) (t : CS) (Q : CS → Prop) (X : String → CS → Prop) : Prop := (kdC t a0 = 9) ∧ ∃ J56 : CS → Prop, (∀ t2 : CS, J56 t2 → (Q t2)) ∧ (((48 ≤ (fI t 146 a0)) → J56 t) ∧ (¬ (48 ≤ (fI t 146 a0)) → (vp_in (fI t 146 a0) (cLN 144)) ∧ ∀ t4 : CS, t4 = usA t 144 a0 (fI t 146 a0) a2 → (vp_in (fI t4 146 a0) (cLN 145)) ∧ ∀ t6 : CS, t6 = usA t4 145 a0 (fI t4 146 a0) (fI t4 147 a0) → ∀ t7 : CS, t7 = usI t6 146 a0 ((fI t6 146 a0) + 1) → (kdC t7 a1 = 12) ∧ w_X9_timeOfBar B a1 a2 t7 (fun r9 t9 => ∀ t10 : CS, t10 = usI t9 147 a0 ((fI t7 147 a0) + r9) → J56 t10) X))
set_option maxRecDepth 20000 in
set_option maxHeartbeats 2000000 in
theorem c_X6_addPlace (l : Launch) (D : va_G) (K : Nat → ClassId) (E0 : Nat) (B : Nat × Nat) (A0 : Nat → Prop) (a0 : Nat) (a1 : Nat) (a2 : Int32) (t : CS) (Q : CS → Prop) (X : String → CS → Prop) (h : w_X6_addPlace B a0 a1 a2 t Q X) : MetC l yX6_addPlace cX6_addPlace 3 none 5 [.ref a0, .ref a1, .int a2] (qV Q) X D K E0 B A0 t := by
  unfold w_X6_addPlace at h
  refine gc_start (by decide) rfl (Nat.le_of_ble_eq_true rfl) (fun p e s m args below meth c C E => ?_)
  refine gc_aloadn C 0 0 dX6_addPlace_0 rfl rfl ?_
  obtain ⟨g1, h⟩ := h
  refine gc_getI C BX6 146 2 (by decide) rfl ft_146 vf_X6_54 rfl (isC_of g1 (by decide)) dX6_addPlace_1 ?_
  refine gc_bipush C 48 dX6_addPlace_4 (by decide) ?_
  obtain ⟨J56, hJ56, h⟩ := h
  have k56 : ∀ t2 : CS, kdLe t t2 → J56 t2 → GC p l e (rmC 5 B t) s m args below meth c 3 D K E0 B A0 (gc_Q below D K E0 A0 (qV Q) X args s t (rmC 5 B t)) t2 56 [] [] := by
    intro t2 lt2 h
    have h := hJ56 t2 h
    exact gc_vret C E lt2 dX6_addPlace_56 ⟨rfl, h⟩
  refine gc_icmp_ge C 56 dX6_addPlace_6 (by decide) (fun c6_1 => ?_) (fun c6_1 => ?_)
  · have h := h.1 c6_1
    refine gc_sub [] rfl ?_
    exact k56 t (kdLe.rf _) h
  · have h := h.2 c6_1
    refine gc_aloadn C 0 0 dX6_addPlace_9 rfl rfl ?_
    refine gc_getE C BX6 144 0 (by decide) rfl fe_144 vf_X6_11 rfl g1 dX6_addPlace_10 ?_
    refine gc_aloadn C 0 0 dX6_addPlace_13 rfl rfl ?_
    refine gc_getI C BX6 146 2 (by decide) rfl ft_146 vf_X6_54 rfl (isC_of g1 (by decide)) dX6_addPlace_14 ?_
    refine gc_iloadn C 2 2 dX6_addPlace_17 rfl rfl ?_
    obtain ⟨g3, h⟩ := h
    refine gc_iast C (ci := 9) (k0 := 0) 144 (by decide) (by decide) (by decide) rfl ft_144 (by decide) g1 g3 dX6_addPlace_18 ?_
    refine gc_nameS (fun t4 et4 => ?_)
    have h := h t4 et4
    have lt4 : kdLe t t4 := kdLe.eq (by rw [et4]; rfl)
    refine gc_aloadn C 0 0 dX6_addPlace_19 rfl rfl ?_
    refine gc_getE C BX6 145 1 (by decide) rfl fe_145 vf_X6_15 rfl (kdLe.k lt4 g1 (by decide) (by decide)) dX6_addPlace_20 ?_
    refine gc_aloadn C 0 0 dX6_addPlace_23 rfl rfl ?_
    refine gc_getI C BX6 146 2 (by decide) rfl ft_146 vf_X6_54 rfl (isC_of (kdLe.k lt4 g1 (by decide) (by decide)) (by decide)) dX6_addPlace_24 ?_
    refine gc_aloadn C 0 0 dX6_addPlace_27 rfl rfl ?_
    refine gc_getI C BX6 147 3 (by decide) rfl ft_147 vf_X6_61 rfl (isC_of (kdLe.k lt4 g1 (by decide) (by decide)) (by decide)) dX6_addPlace_28 ?_
    obtain ⟨g5, h⟩ := h
    refine gc_iast C (ci := 9) (k0 := 1) 145 (by decide) (by decide) (by decide) rfl ft_145 (by decide) (kdLe.k lt4 g1 (by decide) (by decide)) g5 dX6_addPlace_31 ?_
    refine gc_nameS (fun t6 et6 => ?_)
    have h := h t6 et6
    have lt6 : kdLe t4 t6 := kdLe.eq (by rw [et6]; rfl)
    refine gc_aloadn C 0 0 dX6_addPlace_32 rfl rfl ?_
    refine gc_dup C dX6_addPlace_33 rfl ?_
    refine gc_getI C BX6 146 2 (by decide) rfl ft_146 vf_X6_54 rfl (isC_of (kdLe.k (kdLe.tr lt4 lt6) g1 (by decide) (by decide)) (by decide)) dX6_addPlace_34 ?_
    refine gc_iconst C 1 dX6_addPlace_37 (by decide) ?_
    refine gc_iadd C dX6_addPlace_38 ?_
    refine gc_putI C BX6 146 2 (by decide) rfl .int ft_146 vf_X6_54 rfl rfl (by decide +kernel) rfl rfl (isC_of (kdLe.k (kdLe.tr lt4 lt6) g1 (by decide) (by decide)) (by decide)) dX6_addPlace_39 ?_
    refine gc_nameS (fun t7 et7 => ?_)
    have h := h t7 et7
    have lt7 : kdLe t6 t7 := kdLe.eq (by rw [et7]; rfl)
    refine gc_aloadn C 0 0 dX6_addPlace_42 rfl rfl ?_
    refine gc_dup C dX6_addPlace_43 rfl ?_
    refine gc_getI C BX6 147 3 (by decide) rfl ft_147 vf_X6_61 rfl (isC_of (kdLe.k (kdLe.tr lt4 (kdLe.tr lt6 lt7)) g1 (by decide) (by decide)) (by decide)) dX6_addPlace_44 ?_
    refine gc_aloadn C 1 1 dX6_addPlace_47 rfl rfl ?_
    refine gc_iloadn C 2 2 dX6_addPlace_48 rfl rfl ?_
    obtain ⟨g8, h⟩ := h
    refine gc_callV C BX9 (y := yX9_timeOfBar) (as := [.int a2]) rfl (by decide) (by decide) (c_X9_timeOfBar l D K E0 B A0 a1 a2 t7 _ X h) hk_X9_timeOfBar rfl vl_X6_90 kc_X9_timeOfBar (isC_of g8 (by decide)) dX6_addPlace_49 (Nat.le_of_ble_eq_true rfl) (fun _ _ h => h) (qkI (fun r9 t9 h lt9 => ?_))
    refine gc_iadd C dX6_addPlace_52 ?_
    refine gc_putI C BX6 147 3 (by decide) rfl .int ft_147 vf_X6_61 rfl rfl (by decide +kernel) rfl rfl (isC_of (kdLe.k (kdLe.tr lt4 (kdLe.tr lt6 (kdLe.tr lt7 lt9))) g1 (by decide) (by decide)) (by decide)) dX6_addPlace_53 ?_
    refine gc_nameS (fun t10 et10 => ?_)
    have h := h t10 et10
    have lt10 : kdLe t9 t10 := kdLe.eq (by rw [et10]; rfl)
    refine gc_sub [] rfl ?_
    exact k56 t10 (kdLe.tr lt4 (kdLe.tr lt6 (kdLe.tr lt7 (kdLe.tr lt9 lt10)))) h
