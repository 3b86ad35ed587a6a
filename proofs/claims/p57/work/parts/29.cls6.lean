/-! THE CLASS, METHOD BY METHOD (6) -/
def v_X2_hasMetreOf (a0 : Nat) (a1 : Nat) (t : CS) : Int32 := (if ((fI t 80 a0) = (fI t 80 a1)) ∧ ((fI t 81 a0) = (fI t 81 a1)) then 1 else 0)
def d_X2_hasMetreOf (a0 : Nat) (a1 : Nat) (t : CS) : Prop := (kdC t a0 = 5) ∧ (kdC t a1 = 5)
theorem vb_X2_hasMetreOf {a0 : Nat} {a1 : Nat} {t : CS} : gb (v_X2_hasMetreOf a0 a1 t) := by unfold v_X2_hasMetreOf; split <;> first | exact Or.inr rfl | exact Or.inl rfl
set_option maxRecDepth 20000 in
theorem c_X2_hasMetreOf (l : Launch) (D : va_G) (K : Nat → ClassId) (E0 : Nat) (B : Nat × Nat) (A0 : Nat → Prop) (a0 : Nat) (a1 : Nat) (t : CS) (h : d_X2_hasMetreOf a0 a1 t) : MetC l yX2_hasMetreOf cX2_hasMetreOf 2 (some .boolean) 0 [.ref a0, .ref a1] (qI (fun r t' => (v_X2_hasMetreOf a0 a1 t) = r ∧ t = t')) (fun _ _ => False) D K E0 B A0 t := by
  obtain ⟨u1, u2⟩ := h
  refine gc_start (by decide) rfl (Nat.le_of_ble_eq_true rfl) (fun p e s m args below meth c C E => ?_)
  refine gc_aloadn C 0 0 dX2_hasMetreOf_0 rfl rfl ?_
  refine gc_getI C BX2 80 0 (by decide) rfl ft_80 vf_X2_9 rfl (isC_of u1 (by decide)) dX2_hasMetreOf_1 ?_
  refine gc_aloadn C 1 1 dX2_hasMetreOf_4 rfl rfl ?_
  refine gc_getI C BX2 80 0 (by decide) rfl ft_80 vf_X2_9 rfl (isC_of u2 (by decide)) dX2_hasMetreOf_5 ?_
  refine gc_icmp_ne C 26 dX2_hasMetreOf_8 (by decide) (fun c8_1 => ?_) (fun c8_1 => ?_)
  · refine gc_iconst C 0 dX2_hasMetreOf_26 (by decide) ?_
    exact gc_zret C E (Or.inl rfl) (kdLe.rf _) dX2_hasMetreOf_27 ⟨_, rfl, (Eq.symm ((if_neg (fun q0 => c8_1 q0.1)).symm)), rfl⟩
  · refine gc_aloadn C 0 0 dX2_hasMetreOf_11 rfl rfl ?_
    refine gc_getI C BX2 81 1 (by decide) rfl ft_81 vf_X2_15 rfl (isC_of u1 (by decide)) dX2_hasMetreOf_12 ?_
    refine gc_aloadn C 1 1 dX2_hasMetreOf_15 rfl rfl ?_
    refine gc_getI C BX2 81 1 (by decide) rfl ft_81 vf_X2_15 rfl (isC_of u2 (by decide)) dX2_hasMetreOf_16 ?_
    refine gc_icmp_ne C 26 dX2_hasMetreOf_19 (by decide) (fun c19_2 => ?_) (fun c19_2 => ?_)
    · refine gc_iconst C 0 dX2_hasMetreOf_26 (by decide) ?_
      exact gc_zret C E (Or.inl rfl) (kdLe.rf _) dX2_hasMetreOf_27 ⟨_, rfl, (Eq.symm ((if_neg (fun q0 => c19_2 q0.2)).symm)), rfl⟩
    · refine gc_iconst C 1 dX2_hasMetreOf_22 (by decide) ?_
      refine gc_goto C 27 dX2_hasMetreOf_23 (by decide) ?_
      exact gc_zret C E (Or.inr rfl) (kdLe.rf _) dX2_hasMetreOf_27 ⟨_, rfl, (Eq.symm ((if_pos ⟨c8_1, c19_2⟩).symm)), rfl⟩
def v_X9_isNewMetre (a0 : Nat) (a1 : Int32) (t : CS) : Int32 := (if (a1 = 0) ∨ ((v_X2_hasMetreOf (lG t 192 a0 a1) (lG t 192 a0 (a1 - 1)) t) = 0) then 1 else 0)
def d_X9_isNewMetre (a0 : Nat) (a1 : Int32) (t : CS) : Prop := ((¬ (a1 = 0)) → kdC t a0 = 12) ∧ ((¬ (a1 = 0)) → lIn t 192 a0 a1) ∧ ((¬ (a1 = 0)) → kdC t (lG t 192 a0 a1) = 5) ∧ ((¬ (a1 = 0)) → lIn t 192 a0 (a1 - 1)) ∧ ((¬ (a1 = 0)) → kdC t (lG t 192 a0 (a1 - 1)) = 5) ∧ ((¬ (a1 = 0)) → d_X2_hasMetreOf (lG t 192 a0 a1) (lG t 192 a0 (a1 - 1)) t)
theorem vb_X9_isNewMetre {a0 : Nat} {a1 : Int32} {t : CS} : gb (v_X9_isNewMetre a0 a1 t) := by unfold v_X9_isNewMetre; split <;> first | exact Or.inr rfl | exact Or.inl rfl
set_option maxRecDepth 20000 in
theorem c_X9_isNewMetre (l : Launch) (D : va_G) (K : Nat → ClassId) (E0 : Nat) (B : Nat × Nat) (A0 : Nat → Prop) (a0 : Nat) (a1 : Int32) (t : CS) (h : d_X9_isNewMetre a0 a1 t) : MetC l yX9_isNewMetre cX9_isNewMetre 2 (some .boolean) 3 [.ref a0, .int a1] (qI (fun r t' => (v_X9_isNewMetre a0 a1 t) = r ∧ t = t')) (fun _ _ => False) D K E0 B A0 t := by
  obtain ⟨u1, u2, u3, u4, u5, u6⟩ := h
  refine gc_start (by decide) rfl (Nat.le_of_ble_eq_true rfl) (fun p e s m args below meth c C E => ?_)
  refine gc_iloadn C 1 1 dX9_isNewMetre_0 rfl rfl ?_
  refine gc_if_eq C 34 dX9_isNewMetre_1 (by decide) (fun c1_1 => ?_) (fun c1_1 => ?_)
  · refine gc_iconst C 1 dX9_isNewMetre_34 (by decide) ?_
    refine gc_goto C 39 dX9_isNewMetre_35 (by decide) ?_
    exact gc_zret C E (Or.inr rfl) (kdLe.rf _) dX9_isNewMetre_39 ⟨_, rfl, (Eq.symm ((if_pos (Or.inl c1_1)).symm)), rfl⟩
  · refine gc_aloadn C 0 0 dX9_isNewMetre_4 rfl rfl ?_
    refine gc_getE C BX9 192 0 (by decide) rfl fe_192 vf_X9_12 rfl (u1 c1_1) dX9_isNewMetre_5 ?_
    refine gc_iloadn C 1 1 dX9_isNewMetre_8 rfl rfl ?_
    refine gc_lsGet C (ci := 12) (k0 := 0) 192 (by decide) (by decide) (by decide) rfl ft_192 rfl (by decide) (u1 c1_1) (u2 c1_1) vj_X9_42 dX9_isNewMetre_9 (Nat.le_of_ble_eq_true rfl) ?_
    refine gc_cast C BX2 v_i257 (isC_of (u3 c1_1) (by decide)) dX9_isNewMetre_12 ?_
    refine gc_aloadn C 0 0 dX9_isNewMetre_15 rfl rfl ?_
    refine gc_getE C BX9 192 0 (by decide) rfl fe_192 vf_X9_12 rfl (u1 c1_1) dX9_isNewMetre_16 ?_
    refine gc_iloadn C 1 1 dX9_isNewMetre_19 rfl rfl ?_
    refine gc_iconst C 1 dX9_isNewMetre_20 (by decide) ?_
    refine gc_isub C dX9_isNewMetre_21 ?_
    refine gc_lsGet C (ci := 12) (k0 := 0) 192 (by decide) (by decide) (by decide) rfl ft_192 rfl (by decide) (u1 c1_1) (u4 c1_1) vj_X9_42 dX9_isNewMetre_22 (Nat.le_of_ble_eq_true rfl) ?_
    refine gc_cast C BX2 v_i257 (isC_of (u5 c1_1) (by decide)) dX9_isNewMetre_25 ?_
    refine gc_callV C BX2 (y := yX2_hasMetreOf) (as := [.ref (lG t 192 a0 (a1 - 1))]) rfl (by decide) (by decide) (c_X2_hasMetreOf l D K E0 B A0 (lG t 192 a0 a1) (lG t 192 a0 (a1 - 1)) t (u6 c1_1)) hk_X2_hasMetreOf rfl vl_X9_137 kc_X2_hasMetreOf (isC_of (u3 c1_1) (by decide)) dX9_isNewMetre_28 (Nat.le_of_ble_eq_true rfl) (fun _ _ h => h.elim) (qkIP ?_)
    refine gc_if_ne C 38 dX9_isNewMetre_31 (by decide) (fun c31_2 => ?_) (fun c31_2 => ?_)
    · refine gc_iconst C 0 dX9_isNewMetre_38 (by decide) ?_
      exact gc_zret C E (Or.inl rfl) (kdLe.rf _) dX9_isNewMetre_39 ⟨_, rfl, (Eq.symm ((if_neg (fun q0 => Or.elim q0 c1_1 c31_2)).symm)), rfl⟩
    · refine gc_iconst C 1 dX9_isNewMetre_34 (by decide) ?_
      refine gc_goto C 39 dX9_isNewMetre_35 (by decide) ?_
      exact gc_zret C E (Or.inr rfl) (kdLe.rf _) dX9_isNewMetre_39 ⟨_, rfl, (Eq.symm ((if_pos (Or.inr c31_2)).symm)), rfl⟩
def w_X9_areEndingsFrom_L2 (a0 : Nat) (a1 : Int32) (t : CS) (Q : Int32 → CS → Prop) (K2 : Int32 → Prop) (z2 : Int32) : Prop := (kdC t a0 = 12) ∧ (((nI (fL t 194 a0).length) ≤ z2) → Q 0 t) ∧ (¬ ((nI (fL t 194 a0).length) ≤ z2) → (lIn t 194 a0 z2) ∧ (kdC t (lG t 194 a0 z2) = 10) ∧ ((¬ ((fI t 162 (lG t 194 a0 z2)) ≤ 0)) → d_X7_lastAgain (lG t 194 a0 z2) t) ∧ ((((fI t 162 (lG t 194 a0 z2)) ≤ 0) ∨ (¬ (((v_X7_lastAgain (lG t 194 a0 z2) t) + 1) = a1))) → K2 (z2 + 1)) ∧ (¬ (((fI t 162 (lG t 194 a0 z2)) ≤ 0) ∨ (¬ (((v_X7_lastAgain (lG t 194 a0 z2) t) + 1) = a1))) → Q 1 t))
def w_X9_areEndingsFrom (B : Nat × Nat) (a0 : Nat) (a1 : Int32) (t : CS) (Q : Int32 → CS → Prop) (X : String → CS → Prop) : Prop := ∃ n, lp (w_X9_areEndingsFrom_L2 a0 a1 t Q) n 0
set_option maxRecDepth 20000 in
set_option maxHeartbeats 2000000 in
theorem c_X9_areEndingsFrom (l : Launch) (D : va_G) (K : Nat → ClassId) (E0 : Nat) (B : Nat × Nat) (A0 : Nat → Prop) (a0 : Nat) (a1 : Int32) (t : CS) (Q : Int32 → CS → Prop) (X : String → CS → Prop) (h : w_X9_areEndingsFrom B a0 a1 t Q X) : MetC l yX9_areEndingsFrom cX9_areEndingsFrom 4 (some .boolean) 3 [.ref a0, .int a1] (qI Q) X D K E0 B A0 t := by
  unfold w_X9_areEndingsFrom at h
  refine gc_start (by decide) rfl (Nat.le_of_ble_eq_true rfl) (fun p e s m args below meth c C E => ?_)
  refine gc_iconst C 0 dX9_areEndingsFrom_0 (by decide) ?_
  refine gc_istoren C 2 [(2, .int 0), (0, .ref a0), (1, .int a1)] dX9_areEndingsFrom_1 rfl (by decide) rfl ?_
  refine gc_sub [1, 2, 0] rfl ?_
  obtain ⟨n2, h⟩ := h
  have k2 : ∀ (n2 : Nat) (z2 : Int32), lp (w_X9_areEndingsFrom_L2 a0 a1 t Q) n2 z2 → GC p l e (rmC 3 B t) s m args below meth c 4 D K E0 B A0 (gc_Q below D K E0 A0 (qI Q) X args s t (rmC 3 B t)) t 2 [(0, .ref a0), (1, .int a1), (2, .int z2)] [] := by
    intro n2
    induction n2 with
    | zero => intro z2 h; exact h.elim
    | succ n2 ih2 =>
      intro z2 h
      have h : w_X9_areEndingsFrom_L2 a0 a1 t Q (lp (w_X9_areEndingsFrom_L2 a0 a1 t Q) n2) z2 := h
      unfold w_X9_areEndingsFrom_L2 at h
      refine gc_iloadn C 2 2 dX9_areEndingsFrom_2 rfl rfl ?_
      refine gc_aloadn C 0 0 dX9_areEndingsFrom_3 rfl rfl ?_
      obtain ⟨g1, h⟩ := h
      refine gc_getE C BX9 194 2 (by decide) rfl fe_194 vf_X9_21 rfl g1 dX9_areEndingsFrom_4 ?_
      refine gc_lsSize C (ci := 12) (k0 := 2) 194 (by decide) (by decide) (by decide) rfl ft_194 rfl (by decide) g1 vj_X9_38 dX9_areEndingsFrom_7 (Nat.le_of_ble_eq_true rfl) ?_
      refine gc_icmp_ge C 50 dX9_areEndingsFrom_10 (by decide) (fun c10_1 => ?_) (fun c10_1 => ?_)
      · have h := h.1 c10_1
        refine gc_iconst C 0 dX9_areEndingsFrom_50 (by decide) ?_
        exact gc_zret C E (Or.inl rfl) (kdLe.rf _) dX9_areEndingsFrom_51 ⟨_, rfl, h⟩
      · have h := h.2 c10_1
        refine gc_aloadn C 0 0 dX9_areEndingsFrom_13 rfl rfl ?_
        refine gc_getE C BX9 194 2 (by decide) rfl fe_194 vf_X9_21 rfl g1 dX9_areEndingsFrom_14 ?_
        refine gc_iloadn C 2 2 dX9_areEndingsFrom_17 rfl rfl ?_
        obtain ⟨g2, h⟩ := h
        refine gc_lsGet C (ci := 12) (k0 := 2) 194 (by decide) (by decide) (by decide) rfl ft_194 rfl (by decide) g1 g2 vj_X9_42 dX9_areEndingsFrom_18 (Nat.le_of_ble_eq_true rfl) ?_
        obtain ⟨g3, h⟩ := h
        refine gc_cast C BX7 v_i276 (isC_of g3 (by decide)) dX9_areEndingsFrom_21 ?_
        refine gc_astoren C 3 [(3, .ref (lG t 194 a0 z2)), (0, .ref a0), (1, .int a1), (2, .int z2)] dX9_areEndingsFrom_24 rfl (by decide) rfl ?_
        refine gc_aloadn C 0 3 dX9_areEndingsFrom_25 rfl rfl ?_
        refine gc_getI C BX7 162 2 (by decide) rfl ft_162 vf_X9_131 rfl (isC_of g3 (by decide)) dX9_areEndingsFrom_26 ?_
        obtain ⟨g4, h⟩ := h
        have kt13 : (((fI t 162 (lG t 194 a0 z2)) ≤ 0) ∨ (¬ (((v_X7_lastAgain (lG t 194 a0 z2) t) + 1) = a1))) → GC p l e (rmC 3 B t) s m args below meth c 4 D K E0 B A0 (gc_Q below D K E0 A0 (qI Q) X args s t (rmC 3 B t)) t 44 [(3, .ref (lG t 194 a0 z2)), (0, .ref a0), (1, .int a1), (2, .int z2)] [] := by
          intro hc
          have h := h.1 hc
          refine gc_iinc C 3 (z2 + 1) [(2, .int (z2 + 1)), (3, .ref (lG t 194 a0 z2)), (0, .ref a0), (1, .int a1)] dX9_areEndingsFrom_44 rfl rfl (by decide) rfl ?_
          refine gc_goto C 2 dX9_areEndingsFrom_47 (by decide) ?_
          refine gc_sub [2, 3, 0] rfl ?_
          have h9 := ih2 (z2 + 1) h
          exact h9
        have kf13 : ¬ (((fI t 162 (lG t 194 a0 z2)) ≤ 0) ∨ (¬ (((v_X7_lastAgain (lG t 194 a0 z2) t) + 1) = a1))) → GC p l e (rmC 3 B t) s m args below meth c 4 D K E0 B A0 (gc_Q below D K E0 A0 (qI Q) X args s t (rmC 3 B t)) t 42 [(3, .ref (lG t 194 a0 z2)), (0, .ref a0), (1, .int a1), (2, .int z2)] [] := by
          intro hc
          have h := h.2 hc
          refine gc_iconst C 1 dX9_areEndingsFrom_42 (by decide) ?_
          exact gc_zret C E (Or.inr rfl) (kdLe.rf _) dX9_areEndingsFrom_43 ⟨_, rfl, h⟩
        refine gc_if_le C 44 dX9_areEndingsFrom_29 (by decide) (fun c29_2 => ?_) (fun c29_2 => ?_)
        · exact kt13 (Or.inl c29_2)
        · refine gc_aloadn C 0 3 dX9_areEndingsFrom_32 rfl rfl ?_
          refine gc_callV C BX7 (y := yX7_lastAgain) (as := []) rfl (by decide) (by decide) (c_X7_lastAgain l D K E0 B A0 (lG t 194 a0 z2) t (g4 c29_2)) hk_X7_lastAgain rfl vl_X9_134 kc_X7_lastAgain (isC_of g3 (by decide)) dX9_areEndingsFrom_33 (Nat.le_of_ble_eq_true rfl) (fun _ _ h => h.elim) (qkIP ?_)
          refine gc_iconst C 1 dX9_areEndingsFrom_36 (by decide) ?_
          refine gc_iadd C dX9_areEndingsFrom_37 ?_
          refine gc_iloadn C 2 1 dX9_areEndingsFrom_38 rfl rfl ?_
          refine gc_icmp_ne C 44 dX9_areEndingsFrom_39 (by decide) (fun c39_3 => ?_) (fun c39_3 => ?_)
          · exact kt13 (Or.inr c39_3)
          · exact kf13 (fun q0 => Or.elim q0 c29_2 (fun q1 => q1 c39_3))
  exact k2 n2 0 h
def w_X9_isRestParted (B : Nat × Nat) (a0 : Nat) (a1 : Int32) (t : CS) (Q : Int32 → CS → Prop) (X : String → CS → Prop) : Prop := (kdC t a0 = 12) ∧ (d_X9_isNewMetre a0 a1 t) ∧ ∃ J59 : Int32 → CS → Prop, (∀ x3 : Int32, ∀ t4 : CS, J59 x3 t4 → ((gb x3) ∧ Q x3 t4)) ∧ ∃ J54 : CS → Prop, (∀ t6 : CS, J54 t6 → (J59 1 t6)) ∧ ((((v_X9_isNewMetre a0 a1 t) = 0) → lIn t 192 a0 a1) ∧ (((v_X9_isNewMetre a0 a1 t) = 0) → kdC t (lG t 192 a0 a1) = 5) ∧ ((((v_X9_isNewMetre a0 a1 t) = 0) ∧ ((fI t 82 (lG t 192 a0 a1)) = (-1))) → w_X9_repeatFrom B a0 a1 t (fun r9 t9 => ((r9 = (-1)) → w_X9_areEndingsFrom B a0 a1 t9 (fun r10 t10 => ((r10 = 0) → w_X9_repeatTo B a0 (a1 - 1) t10 (fun r11 t11 => ((r11 = (-1)) → J59 0 t11) ∧ (¬ (r11 = (-1)) → J54 t11)) X) ∧ (¬ (r10 = 0) → J54 t10)) X) ∧ (¬ (r9 = (-1)) → J54 t9)) X) ∧ (¬ (((v_X9_isNewMetre a0 a1 t) = 0) ∧ ((fI t 82 (lG t 192 a0 a1)) = (-1))) → J54 t))
set_option maxRecDepth 20000 in
set_option maxHeartbeats 2000000 in
theorem c_X9_isRestParted (l : Launch) (D : va_G) (K : Nat → ClassId) (E0 : Nat) (B : Nat × Nat) (A0 : Nat → Prop) (a0 : Nat) (a1 : Int32) (t : CS) (Q : Int32 → CS → Prop) (X : String → CS → Prop) (h : w_X9_isRestParted B a0 a1 t Q X) : MetC l yX9_isRestParted cX9_isRestParted 2 (some .boolean) 4 [.ref a0, .int a1] (qI Q) X D K E0 B A0 t := by
  unfold w_X9_isRestParted at h
  refine gc_start (by decide) rfl (Nat.le_of_ble_eq_true rfl) (fun p e s m args below meth c C E => ?_)
  refine gc_aloadn C 0 0 dX9_isRestParted_0 rfl rfl ?_
  refine gc_iloadn C 1 1 dX9_isRestParted_1 rfl rfl ?_
  obtain ⟨g1, h⟩ := h
  obtain ⟨g2, h⟩ := h
  refine gc_callV C BX9 (y := yX9_isNewMetre) (as := [.int a1]) rfl (by decide) (by decide) (c_X9_isNewMetre l D K E0 B A0 a0 a1 t g2) hk_X9_isNewMetre rfl vl_X9_141 kc_X9_isNewMetre (isC_of g1 (by decide)) dX9_isRestParted_2 (Nat.le_of_ble_eq_true rfl) (fun _ _ h => h.elim) (qkIP ?_)
  obtain ⟨J59, hJ59, h⟩ := h
  have k59 : ∀ x3 : Int32, ∀ t4 : CS, kdLe t t4 → J59 x3 t4 → GC p l e (rmC 4 B t) s m args below meth c 2 D K E0 B A0 (gc_Q below D K E0 A0 (qI Q) X args s t (rmC 4 B t)) t4 59 [] [.int x3] := by
    intro x3 t4 lt4 h
    have h := hJ59 x3 t4 h
    obtain ⟨g5, h⟩ := h
    exact gc_zret C E g5 lt4 dX9_isRestParted_59 ⟨_, rfl, h⟩
  obtain ⟨J54, hJ54, h⟩ := h
  have k54 : ∀ t6 : CS, kdLe t t6 → J54 t6 → GC p l e (rmC 4 B t) s m args below meth c 2 D K E0 B A0 (gc_Q below D K E0 A0 (qI Q) X args s t (rmC 4 B t)) t6 54 [] [] := by
    intro t6 lt6 h
    have h := hJ54 t6 h
    refine gc_iconst C 1 dX9_isRestParted_54 (by decide) ?_
    refine gc_goto C 59 dX9_isRestParted_55 (by decide) ?_
    exact k59 1 t6 lt6 h
  obtain ⟨g7, h⟩ := h
  obtain ⟨g8, h⟩ := h
  have kt0 : (((v_X9_isNewMetre a0 a1 t) = 0) ∧ ((fI t 82 (lG t 192 a0 a1)) = (-1))) → GC p l e (rmC 4 B t) s m args below meth c 2 D K E0 B A0 (gc_Q below D K E0 A0 (qI Q) X args s t (rmC 4 B t)) t 26 [(0, .ref a0), (1, .int a1)] [] := by
    intro hc
    have h := h.1 hc
    refine gc_aloadn C 0 0 dX9_isRestParted_26 rfl rfl ?_
    refine gc_iloadn C 1 1 dX9_isRestParted_27 rfl rfl ?_
    refine gc_callV C BX9 (y := yX9_repeatFrom) (as := [.int a1]) rfl (by decide) (by decide) (c_X9_repeatFrom l D K E0 B A0 a0 a1 t _ X h) hk_X9_repeatFrom rfl vl_X9_145 kc_X9_repeatFrom (isC_of g1 (by decide)) dX9_isRestParted_28 (Nat.le_of_ble_eq_true rfl) (fun _ _ h => h) (qkI (fun r9 t9 h lt9 => ?_))
    refine gc_iconst C (-1) dX9_isRestParted_31 (by decide) ?_
    refine gc_icmp_ne C 54 dX9_isRestParted_32 (by decide) (fun c32_3 => ?_) (fun c32_3 => ?_)
    · have h := h.2 c32_3
      refine gc_sub [] rfl ?_
      exact k54 t9 lt9 h
    · have h := h.1 c32_3
      refine gc_aloadn C 0 0 dX9_isRestParted_35 rfl rfl ?_
      refine gc_iloadn C 1 1 dX9_isRestParted_36 rfl rfl ?_
      refine gc_callV C BX9 (y := yX9_areEndingsFrom) (as := [.int a1]) rfl (by decide) (by decide) (c_X9_areEndingsFrom l D K E0 B A0 a0 a1 t9 _ X h) hk_X9_areEndingsFrom rfl vl_X9_148 kc_X9_areEndingsFrom (isC_of (kdLe.k lt9 g1 (by decide) (by decide)) (by decide)) dX9_isRestParted_37 (Nat.le_of_ble_eq_true rfl) (fun _ _ h => h) (qkI (fun r10 t10 h lt10 => ?_))
      refine gc_if_ne C 54 dX9_isRestParted_40 (by decide) (fun c40_4 => ?_) (fun c40_4 => ?_)
      · have h := h.2 c40_4
        refine gc_sub [] rfl ?_
        exact k54 t10 (kdLe.tr lt9 lt10) h
      · have h := h.1 c40_4
        refine gc_aloadn C 0 0 dX9_isRestParted_43 rfl rfl ?_
        refine gc_iloadn C 1 1 dX9_isRestParted_44 rfl rfl ?_
        refine gc_iconst C 1 dX9_isRestParted_45 (by decide) ?_
        refine gc_isub C dX9_isRestParted_46 ?_
        refine gc_callV C BX9 (y := yX9_repeatTo) (as := [.int (a1 - 1)]) rfl (by decide) (by decide) (c_X9_repeatTo l D K E0 B A0 a0 (a1 - 1) t10 _ X h) hk_X9_repeatTo rfl vl_X9_151 kc_X9_repeatTo (isC_of (kdLe.k (kdLe.tr lt9 lt10) g1 (by decide) (by decide)) (by decide)) dX9_isRestParted_47 (Nat.le_of_ble_eq_true rfl) (fun _ _ h => h) (qkI (fun r11 t11 h lt11 => ?_))
        refine gc_iconst C (-1) dX9_isRestParted_50 (by decide) ?_
        refine gc_icmp_eq C 58 dX9_isRestParted_51 (by decide) (fun c51_5 => ?_) (fun c51_5 => ?_)
        · have h := h.1 c51_5
          refine gc_iconst C 0 dX9_isRestParted_58 (by decide) ?_
          refine gc_sub [] rfl ?_
          exact k59 0 t11 (kdLe.tr lt9 (kdLe.tr lt10 lt11)) h
        · have h := h.2 c51_5
          refine gc_sub [] rfl ?_
          exact k54 t11 (kdLe.tr lt9 (kdLe.tr lt10 lt11)) h
  have kf0 : ¬ (((v_X9_isNewMetre a0 a1 t) = 0) ∧ ((fI t 82 (lG t 192 a0 a1)) = (-1))) → GC p l e (rmC 4 B t) s m args below meth c 2 D K E0 B A0 (gc_Q below D K E0 A0 (qI Q) X args s t (rmC 4 B t)) t 54 [(0, .ref a0), (1, .int a1)] [] := by
    intro hc
    have h := h.2 hc
    refine gc_sub [] rfl ?_
    exact k54 t (kdLe.rf _) h
  refine gc_if_ne C 54 dX9_isRestParted_5 (by decide) (fun c5_1 => ?_) (fun c5_1 => ?_)
  · exact kf0 (fun q0 => c5_1 q0.1)
  · refine gc_aloadn C 0 0 dX9_isRestParted_8 rfl rfl ?_
    refine gc_getE C BX9 192 0 (by decide) rfl fe_192 vf_X9_12 rfl g1 dX9_isRestParted_9 ?_
    refine gc_iloadn C 1 1 dX9_isRestParted_12 rfl rfl ?_
    refine gc_lsGet C (ci := 12) (k0 := 0) 192 (by decide) (by decide) (by decide) rfl ft_192 rfl (by decide) g1 (g7 c5_1) vj_X9_42 dX9_isRestParted_13 (Nat.le_of_ble_eq_true rfl) ?_
    refine gc_cast C BX2 v_i257 (isC_of (g8 c5_1) (by decide)) dX9_isRestParted_16 ?_
    refine gc_getI C BX2 82 2 (by decide) rfl ft_82 vf_X9_52 rfl (isC_of (g8 c5_1) (by decide)) dX9_isRestParted_19 ?_
    refine gc_iconst C (-1) dX9_isRestParted_22 (by decide) ?_
    refine gc_icmp_ne C 54 dX9_isRestParted_23 (by decide) (fun c23_2 => ?_) (fun c23_2 => ?_)
    · exact kf0 (fun q0 => c23_2 q0.2)
    · exact kt0 ⟨c5_1, c23_2⟩
def w_X9_widthOfSigns (B : Nat × Nat) (a0 : Nat) (a1 : Int32) (t : CS) (Q : Int32 → CS → Prop) (X : String → CS → Prop) : Prop := (kdC t a0 = 12) ∧ (d_X9_isNewMetre a0 a1 t) ∧ ∀ x3 : Int32, x3 = (if (v_X9_isNewMetre a0 a1 t) = 0 then 0 else 3) → (lIn t 192 a0 a1) ∧ (kdC t (lG t 192 a0 a1) = 5) ∧ ∀ x6 : Int32, x6 = (if (fI t 82 (lG t 192 a0 a1)) = (-1) then 0 else 4) → ∀ x7 : Int32, x7 = (x3 + x6) → w_X9_repeatFrom B a0 a1 t (fun r8 t8 => ∀ x9 : Int32, x9 = (if r8 = (-1) then 0 else 2) → ∀ x10 : Int32, x10 = (x7 + x9) → w_X9_repeatTo B a0 a1 t8 (fun r11 t11 => ∀ x12 : Int32, x12 = (if r11 = (-1) then 0 else 2) → ∀ x13 : Int32, x13 = (x10 + x12) → Q x13 t11) X) X
set_option maxRecDepth 20000 in
set_option maxHeartbeats 2000000 in
theorem c_X9_widthOfSigns (l : Launch) (D : va_G) (K : Nat → ClassId) (E0 : Nat) (B : Nat × Nat) (A0 : Nat → Prop) (a0 : Nat) (a1 : Int32) (t : CS) (Q : Int32 → CS → Prop) (X : String → CS → Prop) (h : w_X9_widthOfSigns B a0 a1 t Q X) : MetC l yX9_widthOfSigns cX9_widthOfSigns 3 (some .int) 4 [.ref a0, .int a1] (qI Q) X D K E0 B A0 t := by
  unfold w_X9_widthOfSigns at h
  refine gc_start (by decide) rfl (Nat.le_of_ble_eq_true rfl) (fun p e s m args below meth c C E => ?_)
  refine gc_aloadn C 0 0 dX9_widthOfSigns_0 rfl rfl ?_
  refine gc_iloadn C 1 1 dX9_widthOfSigns_1 rfl rfl ?_
  obtain ⟨g1, h⟩ := h
  obtain ⟨g2, h⟩ := h
  refine gc_callV C BX9 (y := yX9_isNewMetre) (as := [.int a1]) rfl (by decide) (by decide) (c_X9_isNewMetre l D K E0 B A0 a0 a1 t g2) hk_X9_isNewMetre rfl vl_X9_141 kc_X9_isNewMetre (isC_of g1 (by decide)) dX9_widthOfSigns_2 (Nat.le_of_ble_eq_true rfl) (fun _ _ h => h.elim) (qkIP ?_)
  have k13 : ∀ x3 : Int32, x3 = (if (v_X9_isNewMetre a0 a1 t) = 0 then 0 else 3) → GC p l e (rmC 4 B t) s m args below meth c 3 D K E0 B A0 (gc_Q below D K E0 A0 (qI Q) X args s t (rmC 4 B t)) t 13 [(0, .ref a0), (1, .int a1)] [.int x3] := by
    intro x3 ex3
    have h := h x3 ex3
    refine gc_istoren C 2 [(2, .int x3), (0, .ref a0), (1, .int a1)] dX9_widthOfSigns_13 rfl (by decide) rfl ?_
    refine gc_iloadn C 0 2 dX9_widthOfSigns_14 rfl rfl ?_
    refine gc_aloadn C 1 0 dX9_widthOfSigns_15 rfl rfl ?_
    refine gc_getE C BX9 192 0 (by decide) rfl fe_192 vf_X9_12 rfl g1 dX9_widthOfSigns_16 ?_
    refine gc_iloadn C 2 1 dX9_widthOfSigns_19 rfl rfl ?_
    obtain ⟨g4, h⟩ := h
    refine gc_lsGet C (ci := 12) (k0 := 0) 192 (by decide) (by decide) (by decide) rfl ft_192 rfl (by decide) g1 g4 vj_X9_42 dX9_widthOfSigns_20 (Nat.le_of_ble_eq_true rfl) ?_
    obtain ⟨g5, h⟩ := h
    refine gc_cast C BX2 v_i257 (isC_of g5 (by decide)) dX9_widthOfSigns_23 ?_
    refine gc_getI C BX2 82 2 (by decide) rfl ft_82 vf_X9_52 rfl (isC_of g5 (by decide)) dX9_widthOfSigns_26 ?_
    refine gc_iconst C (-1) dX9_widthOfSigns_29 (by decide) ?_
    have k38 : ∀ x6 : Int32, x6 = (if (fI t 82 (lG t 192 a0 a1)) = (-1) then 0 else 4) → GC p l e (rmC 4 B t) s m args below meth c 3 D K E0 B A0 (gc_Q below D K E0 A0 (qI Q) X args s t (rmC 4 B t)) t 38 [(0, .ref a0), (1, .int a1)] [.int x6, .int x3] := by
      intro x6 ex6
      have h := h x6 ex6
      refine gc_iadd C dX9_widthOfSigns_38 ?_
      refine gc_nameI (fun x7 ex7 => ?_)
      have h := h x7 ex7
      refine gc_istoren C 2 [(2, .int x7), (0, .ref a0), (1, .int a1)] dX9_widthOfSigns_39 rfl (by decide) rfl ?_
      refine gc_iloadn C 0 2 dX9_widthOfSigns_40 rfl rfl ?_
      refine gc_aloadn C 1 0 dX9_widthOfSigns_41 rfl rfl ?_
      refine gc_iloadn C 2 1 dX9_widthOfSigns_42 rfl rfl ?_
      refine gc_callV C BX9 (y := yX9_repeatFrom) (as := [.int a1]) rfl (by decide) (by decide) (c_X9_repeatFrom l D K E0 B A0 a0 a1 t _ X h) hk_X9_repeatFrom rfl vl_X9_145 kc_X9_repeatFrom (isC_of g1 (by decide)) dX9_widthOfSigns_43 (Nat.le_of_ble_eq_true rfl) (fun _ _ h => h) (qkI (fun r8 t8 h lt8 => ?_))
      refine gc_iconst C (-1) dX9_widthOfSigns_46 (by decide) ?_
      have k55 : ∀ x9 : Int32, x9 = (if r8 = (-1) then 0 else 2) → GC p l e (rmC 4 B t) s m args below meth c 3 D K E0 B A0 (gc_Q below D K E0 A0 (qI Q) X args s t (rmC 4 B t)) t8 55 [(0, .ref a0), (1, .int a1)] [.int x9, .int x7] := by
        intro x9 ex9
        have h := h x9 ex9
        refine gc_iadd C dX9_widthOfSigns_55 ?_
        refine gc_nameI (fun x10 ex10 => ?_)
        have h := h x10 ex10
        refine gc_istoren C 2 [(2, .int x10), (0, .ref a0), (1, .int a1)] dX9_widthOfSigns_56 rfl (by decide) rfl ?_
        refine gc_iloadn C 0 2 dX9_widthOfSigns_57 rfl rfl ?_
        refine gc_aloadn C 1 0 dX9_widthOfSigns_58 rfl rfl ?_
        refine gc_iloadn C 2 1 dX9_widthOfSigns_59 rfl rfl ?_
        refine gc_callV C BX9 (y := yX9_repeatTo) (as := [.int a1]) rfl (by decide) (by decide) (c_X9_repeatTo l D K E0 B A0 a0 a1 t8 _ X h) hk_X9_repeatTo rfl vl_X9_151 kc_X9_repeatTo (isC_of (kdLe.k lt8 g1 (by decide) (by decide)) (by decide)) dX9_widthOfSigns_60 (Nat.le_of_ble_eq_true rfl) (fun _ _ h => h) (qkI (fun r11 t11 h lt11 => ?_))
        refine gc_iconst C (-1) dX9_widthOfSigns_63 (by decide) ?_
        have k72 : ∀ x12 : Int32, x12 = (if r11 = (-1) then 0 else 2) → GC p l e (rmC 4 B t) s m args below meth c 3 D K E0 B A0 (gc_Q below D K E0 A0 (qI Q) X args s t (rmC 4 B t)) t11 72 [] [.int x12, .int x10] := by
          intro x12 ex12
          have h := h x12 ex12
          refine gc_iadd C dX9_widthOfSigns_72 ?_
          refine gc_nameI (fun x13 ex13 => ?_)
          have h := h x13 ex13
          refine gc_istoren C 2 [(2, .int x13)] dX9_widthOfSigns_73 rfl (by decide) rfl ?_
          refine gc_iloadn C 0 2 dX9_widthOfSigns_74 rfl rfl ?_
          exact gc_iret C E (kdLe.tr lt8 lt11) dX9_widthOfSigns_75 ⟨_, rfl, h⟩
        refine gc_icmp_eq C 71 dX9_widthOfSigns_64 (by decide) (fun c64_4 => ?_) (fun c64_4 => ?_)
        · refine gc_iconst C 0 dX9_widthOfSigns_71 (by decide) ?_
          refine gc_sub [] rfl ?_
          exact k72 _ ((if_pos c64_4).symm)
        · refine gc_iconst C 2 dX9_widthOfSigns_67 (by decide) ?_
          refine gc_goto C 72 dX9_widthOfSigns_68 (by decide) ?_
          refine gc_sub [] rfl ?_
          exact k72 _ ((if_neg c64_4).symm)
      refine gc_icmp_eq C 54 dX9_widthOfSigns_47 (by decide) (fun c47_3 => ?_) (fun c47_3 => ?_)
      · refine gc_iconst C 0 dX9_widthOfSigns_54 (by decide) ?_
        refine gc_sub [1, 2] rfl ?_
        exact k55 _ ((if_pos c47_3).symm)
      · refine gc_iconst C 2 dX9_widthOfSigns_50 (by decide) ?_
        refine gc_goto C 55 dX9_widthOfSigns_51 (by decide) ?_
        refine gc_sub [1, 2] rfl ?_
        exact k55 _ ((if_neg c47_3).symm)
    refine gc_icmp_eq C 37 dX9_widthOfSigns_30 (by decide) (fun c30_2 => ?_) (fun c30_2 => ?_)
    · refine gc_iconst C 0 dX9_widthOfSigns_37 (by decide) ?_
      refine gc_sub [1, 2] rfl ?_
      exact k38 _ ((if_pos c30_2).symm)
    · refine gc_iconst C 4 dX9_widthOfSigns_33 (by decide) ?_
      refine gc_goto C 38 dX9_widthOfSigns_34 (by decide) ?_
      refine gc_sub [1, 2] rfl ?_
      exact k38 _ ((if_neg c30_2).symm)
  refine gc_if_eq C 12 dX9_widthOfSigns_5 (by decide) (fun c5_1 => ?_) (fun c5_1 => ?_)
  · refine gc_iconst C 0 dX9_widthOfSigns_12 (by decide) ?_
    exact k13 _ ((if_pos c5_1).symm)
  · refine gc_iconst C 3 dX9_widthOfSigns_8 (by decide) ?_
    refine gc_goto C 13 dX9_widthOfSigns_9 (by decide) ?_
    exact k13 _ ((if_neg c5_1).symm)
def w_X8_widthOfEvents_L6 (a0 : Nat) (t : CS) (Q : Int32 → CS → Prop) (K6 : (Int32 × Int32 × Int32) → Prop) (z6 : Int32 × Int32 × Int32) : Prop := (kdC t a0 = 11) ∧ (((nI (fL t 176 a0).length) ≤ z6.2.2) → Q z6.1 t) ∧ (¬ ((nI (fL t 176 a0).length) ≤ z6.2.2) → (lIn t 176 a0 z6.2.2) ∧ (kdC t (lG t 176 a0 z6.2.2) = 3) ∧ ∀ x4 : Int32, x4 = (if ¬ ((fI t 52 (lG t 176 a0 z6.2.2)) = (-1)) then 1 else 0) → ∀ x5 : Int32, x5 = (z6.1 + (4 + ((fI t 48 (lG t 176 a0 z6.2.2)) / 6))) → ∀ x6 : Int32, x6 = (if (fI t 49 (lG t 176 a0 z6.2.2)) = 1 then 2 else 0) → ∀ x7 : Int32, x7 = (x5 + x6) → ∀ x8 : Int32, x8 = (if x4 = 0 then 0 else 3) → ∀ x9 : Int32, x9 = (x7 + x8) → ∀ x10 : Int32, x10 = (if (x4 = 0) ∨ (z6.2.1 = 0) then 0 else 2) → ∀ x11 : Int32, x11 = (x9 + x10) → K6 (x11, x4, (z6.2.2 + 1)))
def w_X8_widthOfEvents (B : Nat × Nat) (a0 : Nat) (t : CS) (Q : Int32 → CS → Prop) (X : String → CS → Prop) : Prop := ∃ n, lp (w_X8_widthOfEvents_L6 a0 t Q) n (0, 0, 0)
set_option maxRecDepth 20000 in
set_option maxHeartbeats 2000000 in
theorem c_X8_widthOfEvents (l : Launch) (D : va_G) (K : Nat → ClassId) (E0 : Nat) (B : Nat × Nat) (A0 : Nat → Prop) (a0 : Nat) (t : CS) (Q : Int32 → CS → Prop) (X : String → CS → Prop) (h : w_X8_widthOfEvents B a0 t Q X) : MetC l yX8_widthOfEvents cX8_widthOfEvents 6 (some .int) 3 [.ref a0] (qI Q) X D K E0 B A0 t := by
  unfold w_X8_widthOfEvents at h
  refine gc_start (by decide) rfl (Nat.le_of_ble_eq_true rfl) (fun p e s m args below meth c C E => ?_)
  refine gc_iconst C 0 dX8_widthOfEvents_0 (by decide) ?_
  refine gc_istoren C 1 [(1, .int 0), (0, .ref a0)] dX8_widthOfEvents_1 rfl (by decide) rfl ?_
  refine gc_iconst C 0 dX8_widthOfEvents_2 (by decide) ?_
  refine gc_istoren C 2 [(2, .int 0), (1, .int 0), (0, .ref a0)] dX8_widthOfEvents_3 rfl (by decide) rfl ?_
  refine gc_iconst C 0 dX8_widthOfEvents_4 (by decide) ?_
  refine gc_istoren C 3 [(3, .int 0), (2, .int 0), (1, .int 0), (0, .ref a0)] dX8_widthOfEvents_5 rfl (by decide) rfl ?_
  refine gc_sub [3, 2, 1, 0] rfl ?_
  obtain ⟨n6, h⟩ := h
  have k6 : ∀ (n6 : Nat) (z6 : Int32 × Int32 × Int32), lp (w_X8_widthOfEvents_L6 a0 t Q) n6 z6 → GC p l e (rmC 3 B t) s m args below meth c 6 D K E0 B A0 (gc_Q below D K E0 A0 (qI Q) X args s t (rmC 3 B t)) t 6 [(0, .ref a0), (1, .int z6.1), (2, .int z6.2.1), (3, .int z6.2.2)] [] := by
    intro n6
    induction n6 with
    | zero => intro z6 h; exact h.elim
    | succ n6 ih6 =>
      intro z6 h
      have h : w_X8_widthOfEvents_L6 a0 t Q (lp (w_X8_widthOfEvents_L6 a0 t Q) n6) z6 := h
      unfold w_X8_widthOfEvents_L6 at h
      refine gc_iloadn C 3 3 dX8_widthOfEvents_6 rfl rfl ?_
      refine gc_aloadn C 0 0 dX8_widthOfEvents_7 rfl rfl ?_
      obtain ⟨g1, h⟩ := h
      refine gc_getE C BX8 176 0 (by decide) rfl fe_176 vf_X8_12 rfl g1 dX8_widthOfEvents_8 ?_
      refine gc_lsSize C (ci := 11) (k0 := 0) 176 (by decide) (by decide) (by decide) rfl ft_176 rfl (by decide) g1 vj_X8_18 dX8_widthOfEvents_11 (Nat.le_of_ble_eq_true rfl) ?_
      refine gc_icmp_ge C 115 dX8_widthOfEvents_14 (by decide) (fun c14_1 => ?_) (fun c14_1 => ?_)
      · have h := h.1 c14_1
        refine gc_iloadn C 1 1 dX8_widthOfEvents_115 rfl rfl ?_
        exact gc_iret C E (kdLe.rf _) dX8_widthOfEvents_116 ⟨_, rfl, h⟩
      · have h := h.2 c14_1
        refine gc_aloadn C 0 0 dX8_widthOfEvents_17 rfl rfl ?_
        refine gc_getE C BX8 176 0 (by decide) rfl fe_176 vf_X8_12 rfl g1 dX8_widthOfEvents_18 ?_
        refine gc_iloadn C 3 3 dX8_widthOfEvents_21 rfl rfl ?_
        obtain ⟨g2, h⟩ := h
        refine gc_lsGet C (ci := 11) (k0 := 0) 176 (by decide) (by decide) (by decide) rfl ft_176 rfl (by decide) g1 g2 vj_X8_26 dX8_widthOfEvents_22 (Nat.le_of_ble_eq_true rfl) ?_
        obtain ⟨g3, h⟩ := h
        refine gc_cast C BX0 v_i301 (isC_of g3 (by decide)) dX8_widthOfEvents_25 ?_
        refine gc_astore C [(4, .ref (lG t 176 a0 z6.2.2)), (0, .ref a0), (1, .int z6.1), (2, .int z6.2.1), (3, .int z6.2.2)] dX8_widthOfEvents_28 (by decide) rfl ?_
        refine gc_aload C 0 dX8_widthOfEvents_30 rfl ?_
        refine gc_getI C BX0 52 4 (by decide) rfl ft_52 vf_X8_47 rfl (isC_of g3 (by decide)) dX8_widthOfEvents_32 ?_
        refine gc_iconst C (-1) dX8_widthOfEvents_35 (by decide) ?_
        have k44 : ∀ x4 : Int32, x4 = (if ¬ ((fI t 52 (lG t 176 a0 z6.2.2)) = (-1)) then 1 else 0) → GC p l e (rmC 3 B t) s m args below meth c 6 D K E0 B A0 (gc_Q below D K E0 A0 (qI Q) X args s t (rmC 3 B t)) t 44 [(0, .ref a0), (1, .int z6.1), (2, .int z6.2.1), (3, .int z6.2.2), (4, .ref (lG t 176 a0 z6.2.2))] [.int x4] := by
          intro x4 ex4
          have h := h x4 ex4
          refine gc_istore C [(5, .int x4), (0, .ref a0), (1, .int z6.1), (2, .int z6.2.1), (3, .int z6.2.2), (4, .ref (lG t 176 a0 z6.2.2))] dX8_widthOfEvents_44 (by decide) rfl ?_
          refine gc_iloadn C 2 1 dX8_widthOfEvents_46 rfl rfl ?_
          refine gc_iconst C 4 dX8_widthOfEvents_47 (by decide) ?_
          refine gc_aload C 5 dX8_widthOfEvents_48 rfl ?_
          refine gc_getI C BX0 48 0 (by decide) rfl ft_48 vf_X8_40 rfl (isC_of g3 (by decide)) dX8_widthOfEvents_50 ?_
          refine gc_bipush C 6 dX8_widthOfEvents_53 (by decide) ?_
          refine gc_idiv C dX8_widthOfEvents_55 (by decide) ?_
          refine gc_iadd C dX8_widthOfEvents_56 ?_
          refine gc_iadd C dX8_widthOfEvents_57 ?_
          refine gc_nameI (fun x5 ex5 => ?_)
          have h := h x5 ex5
          refine gc_istoren C 1 [(1, .int x5), (5, .int x4), (0, .ref a0), (2, .int z6.2.1), (3, .int z6.2.2), (4, .ref (lG t 176 a0 z6.2.2))] dX8_widthOfEvents_58 rfl (by decide) rfl ?_
          refine gc_iloadn C 0 1 dX8_widthOfEvents_59 rfl rfl ?_
          refine gc_aload C 5 dX8_widthOfEvents_60 rfl ?_
          refine gc_getI C BX0 49 1 (by decide) rfl ft_49 vf_X8_44 rfl (isC_of g3 (by decide)) dX8_widthOfEvents_62 ?_
          refine gc_iconst C 1 dX8_widthOfEvents_65 (by decide) ?_
          have k74 : ∀ x6 : Int32, x6 = (if (fI t 49 (lG t 176 a0 z6.2.2)) = 1 then 2 else 0) → GC p l e (rmC 3 B t) s m args below meth c 6 D K E0 B A0 (gc_Q below D K E0 A0 (qI Q) X args s t (rmC 3 B t)) t 74 [(0, .ref a0), (2, .int z6.2.1), (3, .int z6.2.2), (5, .int x4)] [.int x6, .int x5] := by
            intro x6 ex6
            have h := h x6 ex6
            refine gc_iadd C dX8_widthOfEvents_74 ?_
            refine gc_nameI (fun x7 ex7 => ?_)
            have h := h x7 ex7
            refine gc_istoren C 1 [(1, .int x7), (0, .ref a0), (2, .int z6.2.1), (3, .int z6.2.2), (5, .int x4)] dX8_widthOfEvents_75 rfl (by decide) rfl ?_
            refine gc_iloadn C 0 1 dX8_widthOfEvents_76 rfl rfl ?_
            refine gc_iload C 4 dX8_widthOfEvents_77 rfl ?_
            have k87 : ∀ x8 : Int32, x8 = (if x4 = 0 then 0 else 3) → GC p l e (rmC 3 B t) s m args below meth c 6 D K E0 B A0 (gc_Q below D K E0 A0 (qI Q) X args s t (rmC 3 B t)) t 87 [(0, .ref a0), (2, .int z6.2.1), (3, .int z6.2.2), (5, .int x4)] [.int x8, .int x7] := by
              intro x8 ex8
              have h := h x8 ex8
              refine gc_iadd C dX8_widthOfEvents_87 ?_
              refine gc_nameI (fun x9 ex9 => ?_)
              have h := h x9 ex9
              refine gc_istoren C 1 [(1, .int x9), (0, .ref a0), (2, .int z6.2.1), (3, .int z6.2.2), (5, .int x4)] dX8_widthOfEvents_88 rfl (by decide) rfl ?_
              refine gc_iloadn C 0 1 dX8_widthOfEvents_89 rfl rfl ?_
              refine gc_iload C 4 dX8_widthOfEvents_90 rfl ?_
              have k104 : ∀ x10 : Int32, x10 = (if (x4 = 0) ∨ (z6.2.1 = 0) then 0 else 2) → GC p l e (rmC 3 B t) s m args below meth c 6 D K E0 B A0 (gc_Q below D K E0 A0 (qI Q) X args s t (rmC 3 B t)) t 104 [(0, .ref a0), (3, .int z6.2.2), (5, .int x4)] [.int x10, .int x9] := by
                intro x10 ex10
                have h := h x10 ex10
                refine gc_iadd C dX8_widthOfEvents_104 ?_
                refine gc_nameI (fun x11 ex11 => ?_)
                have h := h x11 ex11
                refine gc_istoren C 1 [(1, .int x11), (0, .ref a0), (3, .int z6.2.2), (5, .int x4)] dX8_widthOfEvents_105 rfl (by decide) rfl ?_
                refine gc_iload C 3 dX8_widthOfEvents_106 rfl ?_
                refine gc_istoren C 2 [(2, .int x4), (1, .int x11), (0, .ref a0), (3, .int z6.2.2), (5, .int x4)] dX8_widthOfEvents_108 rfl (by decide) rfl ?_
                refine gc_iinc C 3 (z6.2.2 + 1) [(3, .int (z6.2.2 + 1)), (2, .int x4), (1, .int x11), (0, .ref a0), (5, .int x4)] dX8_widthOfEvents_109 rfl rfl (by decide) rfl ?_
                refine gc_goto C 6 dX8_widthOfEvents_112 (by decide) ?_
                refine gc_sub [3, 2, 1, 0] rfl ?_
                have h9 := ih6 (x11, x4, (z6.2.2 + 1)) h
                exact h9
              refine gc_if_eq C 103 dX8_widthOfEvents_92 (by decide) (fun c92_5 => ?_) (fun c92_5 => ?_)
              · refine gc_iconst C 0 dX8_widthOfEvents_103 (by decide) ?_
                refine gc_sub [1, 3, 4] rfl ?_
                exact k104 _ ((if_pos (Or.inl c92_5)).symm)
              · refine gc_iloadn C 2 2 dX8_widthOfEvents_95 rfl rfl ?_
                refine gc_if_eq C 103 dX8_widthOfEvents_96 (by decide) (fun c96_6 => ?_) (fun c96_6 => ?_)
                · refine gc_iconst C 0 dX8_widthOfEvents_103 (by decide) ?_
                  refine gc_sub [1, 3, 4] rfl ?_
                  exact k104 _ ((if_pos (Or.inr c96_6)).symm)
                · refine gc_iconst C 2 dX8_widthOfEvents_99 (by decide) ?_
                  refine gc_goto C 104 dX8_widthOfEvents_100 (by decide) ?_
                  refine gc_sub [1, 3, 4] rfl ?_
                  exact k104 _ ((if_neg (fun q0 => Or.elim q0 c92_5 c96_6)).symm)
            refine gc_if_eq C 86 dX8_widthOfEvents_79 (by decide) (fun c79_4 => ?_) (fun c79_4 => ?_)
            · refine gc_iconst C 0 dX8_widthOfEvents_86 (by decide) ?_
              refine gc_sub [1, 2, 3, 4] rfl ?_
              exact k87 _ ((if_pos c79_4).symm)
            · refine gc_iconst C 3 dX8_widthOfEvents_82 (by decide) ?_
              refine gc_goto C 87 dX8_widthOfEvents_83 (by decide) ?_
              refine gc_sub [1, 2, 3, 4] rfl ?_
              exact k87 _ ((if_neg c79_4).symm)
          refine gc_icmp_ne C 73 dX8_widthOfEvents_66 (by decide) (fun c66_3 => ?_) (fun c66_3 => ?_)
          · refine gc_iconst C 0 dX8_widthOfEvents_73 (by decide) ?_
            refine gc_sub [2, 3, 4, 1] rfl ?_
            exact k74 _ ((if_neg c66_3).symm)
          · refine gc_iconst C 2 dX8_widthOfEvents_69 (by decide) ?_
            refine gc_goto C 74 dX8_widthOfEvents_70 (by decide) ?_
            refine gc_sub [2, 3, 4, 1] rfl ?_
            exact k74 _ ((if_pos c66_3).symm)
        refine gc_icmp_eq C 43 dX8_widthOfEvents_36 (by decide) (fun c36_2 => ?_) (fun c36_2 => ?_)
        · refine gc_iconst C 0 dX8_widthOfEvents_43 (by decide) ?_
          refine gc_sub [1, 2, 3, 4, 0] rfl ?_
          exact k44 _ ((if_neg (fun q0 => q0 c36_2)).symm)
        · refine gc_iconst C 1 dX8_widthOfEvents_39 (by decide) ?_
          refine gc_goto C 44 dX8_widthOfEvents_40 (by decide) ?_
          refine gc_sub [1, 2, 3, 4, 0] rfl ?_
          exact k44 _ ((if_pos c36_2).symm)
  exact k6 n6 (0, 0, 0) h
def w_X8_widthAsCue_L4 (a0 : Nat) (t : CS) (Q : Int32 → CS → Prop) (K4 : (Int32 × Int32) → Prop) (z4 : Int32 × Int32) : Prop := (kdC t a0 = 11) ∧ (((nI (fL t 176 a0).length) ≤ z4.2) → Q z4.1 t) ∧ (¬ ((nI (fL t 176 a0).length) ≤ z4.2) → (lIn t 176 a0 z4.2) ∧ (kdC t (lG t 176 a0 z4.2) = 3) ∧ ∀ x4 : Int32, x4 = (z4.1 + (3 + ((fI t 48 (lG t 176 a0 z4.2)) / 8))) → K4 (x4, (z4.2 + 1)))
def w_X8_widthAsCue (B : Nat × Nat) (a0 : Nat) (t : CS) (Q : Int32 → CS → Prop) (X : String → CS → Prop) : Prop := ∃ n, lp (w_X8_widthAsCue_L4 a0 t Q) n (0, 0)
set_option maxRecDepth 20000 in
set_option maxHeartbeats 2000000 in
theorem c_X8_widthAsCue (l : Launch) (D : va_G) (K : Nat → ClassId) (E0 : Nat) (B : Nat × Nat) (A0 : Nat → Prop) (a0 : Nat) (t : CS) (Q : Int32 → CS → Prop) (X : String → CS → Prop) (h : w_X8_widthAsCue B a0 t Q X) : MetC l yX8_widthAsCue cX8_widthAsCue 3 (some .int) 3 [.ref a0] (qI Q) X D K E0 B A0 t := by
  unfold w_X8_widthAsCue at h
  refine gc_start (by decide) rfl (Nat.le_of_ble_eq_true rfl) (fun p e s m args below meth c C E => ?_)
  refine gc_iconst C 0 dX8_widthAsCue_0 (by decide) ?_
  refine gc_istoren C 1 [(1, .int 0), (0, .ref a0)] dX8_widthAsCue_1 rfl (by decide) rfl ?_
  refine gc_iconst C 0 dX8_widthAsCue_2 (by decide) ?_
  refine gc_istoren C 2 [(2, .int 0), (1, .int 0), (0, .ref a0)] dX8_widthAsCue_3 rfl (by decide) rfl ?_
  refine gc_sub [2, 1, 0] rfl ?_
  obtain ⟨n4, h⟩ := h
  have k4 : ∀ (n4 : Nat) (z4 : Int32 × Int32), lp (w_X8_widthAsCue_L4 a0 t Q) n4 z4 → GC p l e (rmC 3 B t) s m args below meth c 3 D K E0 B A0 (gc_Q below D K E0 A0 (qI Q) X args s t (rmC 3 B t)) t 4 [(0, .ref a0), (1, .int z4.1), (2, .int z4.2)] [] := by
    intro n4
    induction n4 with
    | zero => intro z4 h; exact h.elim
    | succ n4 ih4 =>
      intro z4 h
      have h : w_X8_widthAsCue_L4 a0 t Q (lp (w_X8_widthAsCue_L4 a0 t Q) n4) z4 := h
      unfold w_X8_widthAsCue_L4 at h
      refine gc_iloadn C 2 2 dX8_widthAsCue_4 rfl rfl ?_
      refine gc_aloadn C 0 0 dX8_widthAsCue_5 rfl rfl ?_
      obtain ⟨g1, h⟩ := h
      refine gc_getE C BX8 176 0 (by decide) rfl fe_176 vf_X8_12 rfl g1 dX8_widthAsCue_6 ?_
      refine gc_lsSize C (ci := 11) (k0 := 0) 176 (by decide) (by decide) (by decide) rfl ft_176 rfl (by decide) g1 vj_X8_18 dX8_widthAsCue_9 (Nat.le_of_ble_eq_true rfl) ?_
      refine gc_icmp_ge C 43 dX8_widthAsCue_12 (by decide) (fun c12_1 => ?_) (fun c12_1 => ?_)
      · have h := h.1 c12_1
        refine gc_iloadn C 1 1 dX8_widthAsCue_43 rfl rfl ?_
        exact gc_iret C E (kdLe.rf _) dX8_widthAsCue_44 ⟨_, rfl, h⟩
      · have h := h.2 c12_1
        refine gc_iloadn C 1 1 dX8_widthAsCue_15 rfl rfl ?_
        refine gc_iconst C 3 dX8_widthAsCue_16 (by decide) ?_
        refine gc_aloadn C 0 0 dX8_widthAsCue_17 rfl rfl ?_
        refine gc_getE C BX8 176 0 (by decide) rfl fe_176 vf_X8_12 rfl g1 dX8_widthAsCue_18 ?_
        refine gc_iloadn C 2 2 dX8_widthAsCue_21 rfl rfl ?_
        obtain ⟨g2, h⟩ := h
        refine gc_lsGet C (ci := 11) (k0 := 0) 176 (by decide) (by decide) (by decide) rfl ft_176 rfl (by decide) g1 g2 vj_X8_26 dX8_widthAsCue_22 (Nat.le_of_ble_eq_true rfl) ?_
        obtain ⟨g3, h⟩ := h
        refine gc_cast C BX0 v_i301 (isC_of g3 (by decide)) dX8_widthAsCue_25 ?_
        refine gc_getI C BX0 48 0 (by decide) rfl ft_48 vf_X8_40 rfl (isC_of g3 (by decide)) dX8_widthAsCue_28 ?_
        refine gc_bipush C 8 dX8_widthAsCue_31 (by decide) ?_
        refine gc_idiv C dX8_widthAsCue_33 (by decide) ?_
        refine gc_iadd C dX8_widthAsCue_34 ?_
        refine gc_iadd C dX8_widthAsCue_35 ?_
        refine gc_nameI (fun x4 ex4 => ?_)
        have h := h x4 ex4
        refine gc_istoren C 1 [(1, .int x4), (0, .ref a0), (2, .int z4.2)] dX8_widthAsCue_36 rfl (by decide) rfl ?_
        refine gc_iinc C 2 (z4.2 + 1) [(2, .int (z4.2 + 1)), (1, .int x4), (0, .ref a0)] dX8_widthAsCue_37 rfl rfl (by decide) rfl ?_
        refine gc_goto C 4 dX8_widthAsCue_40 (by decide) ?_
        refine gc_sub [2, 1, 0] rfl ?_
        have h9 := ih4 (x4, (z4.2 + 1)) h
        exact h9
  exact k4 n4 (0, 0) h
def w_X4_widthOf_L13 (B : Nat × Nat) (a0 : Nat) (a1 : Nat) (a2 : Int32) (Q : Int32 → CS → Prop) (X : String → CS → Prop) (x3 : Int32) (K13 : (Int32 × Int32 × CS) → Prop) (z13 : Int32 × Int32 × CS) : Prop := (vp_in a2 (cLN 115)) ∧ (((x3 + (fA z13.2.2 115 a0 (Int32.toNatClampNeg a2))) ≤ z13.2.1) → (vp_in a2 (cLN 113)) ∧ (((fA z13.2.2 113 a0 (Int32.toNatClampNeg a2)) = 0) → (kdC z13.2.2 a1 = 12) ∧ (d_X9_row a1 (fI z13.2.2 112 a0) x3 z13.2.2) ∧ (kdC z13.2.2 (v_X9_row a1 (fI z13.2.2 112 a0) x3 z13.2.2) = 11) ∧ w_X8_widthOfEvents B (v_X9_row a1 (fI z13.2.2 112 a0) x3 z13.2.2) z13.2.2 (fun r9 t9 => Q ((z13.1 + 10) + r9) t9) X) ∧ (¬ ((fA z13.2.2 113 a0 (Int32.toNatClampNeg a2)) = 0) → (vp_in a2 (cLN 113)) ∧ (((fA z13.2.2 113 a0 (Int32.toNatClampNeg a2)) = 2) → vp_in a2 (cLN 116)) ∧ (((¬ ((fA z13.2.2 113 a0 (Int32.toNatClampNeg a2)) = 2)) ∨ ((fA z13.2.2 116 a0 (Int32.toNatClampNeg a2)) = (-1))) → (vp_in a2 (cLN 115)) ∧ Q ((z13.1 + 16) + (fA z13.2.2 115 a0 (Int32.toNatClampNeg a2))) z13.2.2) ∧ (¬ ((¬ ((fA z13.2.2 113 a0 (Int32.toNatClampNeg a2)) = 2)) ∨ ((fA z13.2.2 116 a0 (Int32.toNatClampNeg a2)) = (-1))) → (vp_in a2 (cLN 116)) ∧ (kdC z13.2.2 a1 = 12) ∧ (d_X9_row a1 (fA z13.2.2 116 a0 (Int32.toNatClampNeg a2)) x3 z13.2.2) ∧ (kdC z13.2.2 (v_X9_row a1 (fA z13.2.2 116 a0 (Int32.toNatClampNeg a2)) x3 z13.2.2) = 11) ∧ w_X8_widthAsCue B (v_X9_row a1 (fA z13.2.2 116 a0 (Int32.toNatClampNeg a2)) x3 z13.2.2) z13.2.2 (fun r17 t17 => Q ((z13.1 + 10) + r17) t17) X))) ∧ (¬ ((x3 + (fA z13.2.2 115 a0 (Int32.toNatClampNeg a2))) ≤ z13.2.1) → (kdC z13.2.2 a1 = 12) ∧ w_X9_widthOfSigns B a1 z13.2.1 z13.2.2 (fun r19 t19 => ∀ x20 : Int32, x20 = (z13.1 + r19) → K13 (x20, (z13.2.1 + 1), t19)) X)
def w_X4_widthOf (B : Nat × Nat) (a0 : Nat) (a1 : Nat) (a2 : Int32) (t : CS) (Q : Int32 → CS → Prop) (X : String → CS → Prop) : Prop := (kdC t a0 = 7) ∧ (vp_in a2 (cLN 114)) ∧ ∀ x3 : Int32, x3 = (fA t 114 a0 (Int32.toNatClampNeg a2)) → ∃ n, lp (w_X4_widthOf_L13 B a0 a1 a2 Q X x3) n (0, x3, t)
set_option maxRecDepth 20000 in
set_option maxHeartbeats 2000000 in
theorem c_X4_widthOf (l : Launch) (D : va_G) (K : Nat → ClassId) (E0 : Nat) (B : Nat × Nat) (A0 : Nat → Prop) (a0 : Nat) (a1 : Nat) (a2 : Int32) (t : CS) (Q : Int32 → CS → Prop) (X : String → CS → Prop) (h : w_X4_widthOf B a0 a1 a2 t Q X) : MetC l yX4_widthOf cX4_widthOf 6 (some .int) 5 [.ref a0, .ref a1, .int a2] (qI Q) X D K E0 B A0 t := by
  unfold w_X4_widthOf at h
  refine gc_start (by decide) rfl (Nat.le_of_ble_eq_true rfl) (fun p e s m args below meth c C E => ?_)
  refine gc_aloadn C 0 0 dX4_widthOf_0 rfl rfl ?_
  obtain ⟨g1, h⟩ := h
  refine gc_getE C BX4 114 2 (by decide) rfl fe_114 vf_X4_15 rfl g1 dX4_widthOf_1 ?_
  refine gc_iloadn C 2 2 dX4_widthOf_4 rfl rfl ?_
  obtain ⟨g2, h⟩ := h
  refine gc_iald C (ci := 7) (k0 := 2) 114 (by decide) (by decide) (by decide) rfl ft_114 (by decide) g1 g2 dX4_widthOf_5 ?_
  refine gc_nameI (fun x3 ex3 => ?_)
  have h := h x3 ex3
  refine gc_istoren C 3 [(3, .int x3), (0, .ref a0), (1, .ref a1), (2, .int a2)] dX4_widthOf_6 rfl (by decide) rfl ?_
  refine gc_iconst C 0 dX4_widthOf_7 (by decide) ?_
  refine gc_istore C [(4, .int 0), (3, .int x3), (0, .ref a0), (1, .ref a1), (2, .int a2)] dX4_widthOf_8 (by decide) rfl ?_
  refine gc_iloadn C 1 3 dX4_widthOf_10 rfl rfl ?_
  refine gc_istore C [(5, .int x3), (4, .int 0), (3, .int x3), (0, .ref a0), (1, .ref a1), (2, .int a2)] dX4_widthOf_11 (by decide) rfl ?_
  refine gc_sub [3, 4, 5, 2, 1, 0] rfl ?_
  obtain ⟨n13, h⟩ := h
  have k13 : ∀ (n13 : Nat) (z13 : Int32 × Int32 × CS), kdLe t z13.2.2 → lp (w_X4_widthOf_L13 B a0 a1 a2 Q X x3) n13 z13 → GC p l e (rmC 5 B t) s m args below meth c 6 D K E0 B A0 (gc_Q below D K E0 A0 (qI Q) X args s t (rmC 5 B t)) z13.2.2 13 [(0, .ref a0), (1, .ref a1), (2, .int a2), (3, .int x3), (4, .int z13.1), (5, .int z13.2.1)] [] := by
    intro n13
    induction n13 with
    | zero => intro z13 lz13 h; exact h.elim
    | succ n13 ih13 =>
      intro z13 lz13 h
      have h : w_X4_widthOf_L13 B a0 a1 a2 Q X x3 (lp (w_X4_widthOf_L13 B a0 a1 a2 Q X x3) n13) z13 := h
      unfold w_X4_widthOf_L13 at h
      refine gc_iload C 5 dX4_widthOf_13 rfl ?_
      refine gc_iloadn C 3 3 dX4_widthOf_15 rfl rfl ?_
      refine gc_aloadn C 0 0 dX4_widthOf_16 rfl rfl ?_
      refine gc_getE C BX4 115 3 (by decide) rfl fe_115 vf_X4_18 rfl (kdLe.k lz13 g1 (by decide) (by decide)) dX4_widthOf_17 ?_
      refine gc_iloadn C 2 2 dX4_widthOf_20 rfl rfl ?_
      obtain ⟨g4, h⟩ := h
      refine gc_iald C (ci := 7) (k0 := 3) 115 (by decide) (by decide) (by decide) rfl ft_115 (by decide) (kdLe.k lz13 g1 (by decide) (by decide)) g4 dX4_widthOf_21 ?_
      refine gc_iadd C dX4_widthOf_22 ?_
      refine gc_icmp_ge C 43 dX4_widthOf_23 (by decide) (fun c23_1 => ?_) (fun c23_1 => ?_)
      · have h := h.1 c23_1
        refine gc_aloadn C 0 0 dX4_widthOf_43 rfl rfl ?_
        refine gc_getE C BX4 113 1 (by decide) rfl fe_113 vf_X4_9 rfl (kdLe.k lz13 g1 (by decide) (by decide)) dX4_widthOf_44 ?_
        refine gc_iloadn C 2 2 dX4_widthOf_47 rfl rfl ?_
        obtain ⟨g5, h⟩ := h
        refine gc_iald C (ci := 7) (k0 := 1) 113 (by decide) (by decide) (by decide) rfl ft_113 (by decide) (kdLe.k lz13 g1 (by decide) (by decide)) g5 dX4_widthOf_48 ?_
        refine gc_if_ne C 71 dX4_widthOf_49 (by decide) (fun c49_2 => ?_) (fun c49_2 => ?_)
        · have h := h.2 c49_2
          refine gc_aloadn C 0 0 dX4_widthOf_71 rfl rfl ?_
          refine gc_getE C BX4 113 1 (by decide) rfl fe_113 vf_X4_9 rfl (kdLe.k lz13 g1 (by decide) (by decide)) dX4_widthOf_72 ?_
          refine gc_iloadn C 2 2 dX4_widthOf_75 rfl rfl ?_
          obtain ⟨g10, h⟩ := h
          refine gc_iald C (ci := 7) (k0 := 1) 113 (by decide) (by decide) (by decide) rfl ft_113 (by decide) (kdLe.k lz13 g1 (by decide) (by decide)) g10 dX4_widthOf_76 ?_
          refine gc_iconst C 2 dX4_widthOf_77 (by decide) ?_
          obtain ⟨g11, h⟩ := h
          have kt71 : ((¬ ((fA z13.2.2 113 a0 (Int32.toNatClampNeg a2)) = 2)) ∨ ((fA z13.2.2 116 a0 (Int32.toNatClampNeg a2)) = (-1))) → GC p l e (rmC 5 B t) s m args below meth c 6 D K E0 B A0 (gc_Q below D K E0 A0 (qI Q) X args s t (rmC 5 B t)) z13.2.2 112 [(0, .ref a0), (1, .ref a1), (2, .int a2), (3, .int x3), (4, .int z13.1), (5, .int z13.2.1)] [] := by
            intro hc
            have h := h.1 hc
            refine gc_iload C 4 dX4_widthOf_112 rfl ?_
            refine gc_bipush C 16 dX4_widthOf_114 (by decide) ?_
            refine gc_iadd C dX4_widthOf_116 ?_
            refine gc_aloadn C 0 0 dX4_widthOf_117 rfl rfl ?_
            refine gc_getE C BX4 115 3 (by decide) rfl fe_115 vf_X4_18 rfl (kdLe.k lz13 g1 (by decide) (by decide)) dX4_widthOf_118 ?_
            refine gc_iloadn C 2 2 dX4_widthOf_121 rfl rfl ?_
            obtain ⟨g12, h⟩ := h
            refine gc_iald C (ci := 7) (k0 := 3) 115 (by decide) (by decide) (by decide) rfl ft_115 (by decide) (kdLe.k lz13 g1 (by decide) (by decide)) g12 dX4_widthOf_122 ?_
            refine gc_iadd C dX4_widthOf_123 ?_
            exact gc_iret C E lz13 dX4_widthOf_124 ⟨_, rfl, h⟩
          have kf71 : ¬ ((¬ ((fA z13.2.2 113 a0 (Int32.toNatClampNeg a2)) = 2)) ∨ ((fA z13.2.2 116 a0 (Int32.toNatClampNeg a2)) = (-1))) → GC p l e (rmC 5 B t) s m args below meth c 6 D K E0 B A0 (gc_Q below D K E0 A0 (qI Q) X args s t (rmC 5 B t)) z13.2.2 91 [(0, .ref a0), (1, .ref a1), (2, .int a2), (3, .int x3), (4, .int z13.1), (5, .int z13.2.1)] [] := by
            intro hc
            have h := h.2 hc
            refine gc_iload C 4 dX4_widthOf_91 rfl ?_
            refine gc_bipush C 10 dX4_widthOf_93 (by decide) ?_
            refine gc_iadd C dX4_widthOf_95 ?_
            refine gc_aloadn C 1 1 dX4_widthOf_96 rfl rfl ?_
            refine gc_aloadn C 0 0 dX4_widthOf_97 rfl rfl ?_
            refine gc_getE C BX4 116 4 (by decide) rfl fe_116 vf_X4_21 rfl (kdLe.k lz13 g1 (by decide) (by decide)) dX4_widthOf_98 ?_
            refine gc_iloadn C 2 2 dX4_widthOf_101 rfl rfl ?_
            obtain ⟨g13, h⟩ := h
            refine gc_iald C (ci := 7) (k0 := 4) 116 (by decide) (by decide) (by decide) rfl ft_116 (by decide) (kdLe.k lz13 g1 (by decide) (by decide)) g13 dX4_widthOf_102 ?_
            refine gc_iloadn C 3 3 dX4_widthOf_103 rfl rfl ?_
            obtain ⟨g14, h⟩ := h
            obtain ⟨g15, h⟩ := h
            refine gc_callV C BX9 (y := yX9_row) (as := [.int (fA z13.2.2 116 a0 (Int32.toNatClampNeg a2)), .int x3]) rfl (by decide) (by decide) (c_X9_row l D K E0 B A0 a1 (fA z13.2.2 116 a0 (Int32.toNatClampNeg a2)) x3 z13.2.2 g15) hk_X9_row rfl vl_X4_57 kc_X9_row (isC_of g14 (by decide)) dX4_widthOf_104 (Nat.le_of_ble_eq_true rfl) (fun _ _ h => h.elim) (qkRP ?_)
            obtain ⟨g16, h⟩ := h
            refine gc_callV C BX8 (y := yX8_widthAsCue) (as := []) rfl (by decide) (by decide) (c_X8_widthAsCue l D K E0 B A0 (v_X9_row a1 (fA z13.2.2 116 a0 (Int32.toNatClampNeg a2)) x3 z13.2.2) z13.2.2 _ X h) hk_X8_widthAsCue rfl vl_X4_97 kc_X8_widthAsCue (isC_of g16 (by decide)) dX4_widthOf_107 (Nat.le_of_ble_eq_true rfl) (fun _ _ h => h) (qkI (fun r17 t17 h lt17 => ?_))
            refine gc_iadd C dX4_widthOf_110 ?_
            exact gc_iret C E (kdLe.tr lz13 lt17) dX4_widthOf_111 ⟨_, rfl, h⟩
          refine gc_icmp_ne C 112 dX4_widthOf_78 (by decide) (fun c78_3 => ?_) (fun c78_3 => ?_)
          · exact kt71 (Or.inl c78_3)
          · refine gc_aloadn C 0 0 dX4_widthOf_81 rfl rfl ?_
            refine gc_getE C BX4 116 4 (by decide) rfl fe_116 vf_X4_21 rfl (kdLe.k lz13 g1 (by decide) (by decide)) dX4_widthOf_82 ?_
            refine gc_iloadn C 2 2 dX4_widthOf_85 rfl rfl ?_
            refine gc_iald C (ci := 7) (k0 := 4) 116 (by decide) (by decide) (by decide) rfl ft_116 (by decide) (kdLe.k lz13 g1 (by decide) (by decide)) (g11 c78_3) dX4_widthOf_86 ?_
            refine gc_iconst C (-1) dX4_widthOf_87 (by decide) ?_
            refine gc_icmp_eq C 112 dX4_widthOf_88 (by decide) (fun c88_4 => ?_) (fun c88_4 => ?_)
            · exact kt71 (Or.inr c88_4)
            · exact kf71 (fun q0 => Or.elim q0 (fun r => r c78_3) c88_4)
        · have h := h.1 c49_2
          refine gc_iload C 4 dX4_widthOf_52 rfl ?_
          refine gc_bipush C 10 dX4_widthOf_54 (by decide) ?_
          refine gc_iadd C dX4_widthOf_56 ?_
          refine gc_aloadn C 1 1 dX4_widthOf_57 rfl rfl ?_
          refine gc_aloadn C 0 0 dX4_widthOf_58 rfl rfl ?_
          refine gc_getI C BX4 112 0 (by decide) rfl ft_112 vf_X4_45 rfl (isC_of (kdLe.k lz13 g1 (by decide) (by decide)) (by decide)) dX4_widthOf_59 ?_
          refine gc_iloadn C 3 3 dX4_widthOf_62 rfl rfl ?_
          obtain ⟨g6, h⟩ := h
          obtain ⟨g7, h⟩ := h
          refine gc_callV C BX9 (y := yX9_row) (as := [.int (fI z13.2.2 112 a0), .int x3]) rfl (by decide) (by decide) (c_X9_row l D K E0 B A0 a1 (fI z13.2.2 112 a0) x3 z13.2.2 g7) hk_X9_row rfl vl_X4_57 kc_X9_row (isC_of g6 (by decide)) dX4_widthOf_63 (Nat.le_of_ble_eq_true rfl) (fun _ _ h => h.elim) (qkRP ?_)
          obtain ⟨g8, h⟩ := h
          refine gc_callV C BX8 (y := yX8_widthOfEvents) (as := []) rfl (by decide) (by decide) (c_X8_widthOfEvents l D K E0 B A0 (v_X9_row a1 (fI z13.2.2 112 a0) x3 z13.2.2) z13.2.2 _ X h) hk_X8_widthOfEvents rfl vl_X4_94 kc_X8_widthOfEvents (isC_of g8 (by decide)) dX4_widthOf_66 (Nat.le_of_ble_eq_true rfl) (fun _ _ h => h) (qkI (fun r9 t9 h lt9 => ?_))
          refine gc_iadd C dX4_widthOf_69 ?_
          exact gc_iret C E (kdLe.tr lz13 lt9) dX4_widthOf_70 ⟨_, rfl, h⟩
      · have h := h.2 c23_1
        refine gc_iload C 4 dX4_widthOf_26 rfl ?_
        refine gc_aloadn C 1 1 dX4_widthOf_28 rfl rfl ?_
        refine gc_iload C 5 dX4_widthOf_29 rfl ?_
        obtain ⟨g18, h⟩ := h
        refine gc_callV C BX9 (y := yX9_widthOfSigns) (as := [.int z13.2.1]) rfl (by decide) (by decide) (c_X9_widthOfSigns l D K E0 B A0 a1 z13.2.1 z13.2.2 _ X h) hk_X9_widthOfSigns rfl vl_X4_90 kc_X9_widthOfSigns (isC_of g18 (by decide)) dX4_widthOf_31 (Nat.le_of_ble_eq_true rfl) (fun _ _ h => h) (qkI (fun r19 t19 h lt19 => ?_))
        refine gc_iadd C dX4_widthOf_34 ?_
        refine gc_nameI (fun x20 ex20 => ?_)
        have h := h x20 ex20
        refine gc_istore C [(4, .int x20), (0, .ref a0), (1, .ref a1), (2, .int a2), (3, .int x3), (5, .int z13.2.1)] dX4_widthOf_35 (by decide) rfl ?_
        refine gc_iinc C 5 (z13.2.1 + 1) [(5, .int (z13.2.1 + 1)), (4, .int x20), (0, .ref a0), (1, .ref a1), (2, .int a2), (3, .int x3)] dX4_widthOf_37 rfl rfl (by decide) rfl ?_
        refine gc_goto C 13 dX4_widthOf_40 (by decide) ?_
        refine gc_sub [2, 3, 4, 5, 1, 0] rfl ?_
        have h9 := ih13 (x20, (z13.2.1 + 1), t19) (kdLe.tr lz13 lt19) h
        exact h9
  exact k13 n13 (0, x3, t) (kdLe.rf _) h
def w_X4_layItems_L93 (B : Nat × Nat) (a0 : Nat) (a1 : Nat) (Q : CS → Prop) (X : String → CS → Prop) (K93 : (Int32 × CS) → Prop) (z93 : Int32 × CS) : Prop := (((fI z93.2 118 a0) ≤ z93.1) → Q z93.2) ∧ (¬ ((fI z93.2 118 a0) ≤ z93.1) → w_X4_widthOf B a0 a1 z93.1 z93.2 (fun r5 t5 => (vp_in z93.1 (cLN 117)) ∧ ∀ t7 : CS, t7 = usA t5 117 a0 z93.1 r5 → K93 ((z93.1 + 1), t7)) X)
def w_X4_layItems_L7 (B : Nat × Nat) (a0 : Nat) (a1 : Nat) (Q : CS → Prop) (X : String → CS → Prop) (K7 : (Int32 × CS) → Prop) (z7 : Int32 × CS) : Prop := (kdC z7.2 a1 = 12) ∧ (d_X9_barCount a1 z7.2) ∧ (((v_X9_barCount a1 z7.2) ≤ z7.1) → ∃ n, lp (w_X4_layItems_L93 B a0 a1 Q X) n (0, z7.2)) ∧ (¬ ((v_X9_barCount a1 z7.2) ≤ z7.1) → (d_X9_row a1 (fI z7.2 112 a0) z7.1 z7.2) ∧ (kdC z7.2 (v_X9_row a1 (fI z7.2 112 a0) z7.1 z7.2) = 11) ∧ (d_X8_isEmpty (v_X9_row a1 (fI z7.2 112 a0) z7.1 z7.2) z7.2) ∧ ∃ J85 : CS → Prop, (∀ t11 : CS, J85 t11 → (K7 ((z7.1 + 1), t11))) ∧ ((((v_X8_isEmpty (v_X9_row a1 (fI z7.2 112 a0) z7.1 z7.2) z7.2) = 0) → w_X4_partCueFromRest B a0 a1 z7.2 (fun t12 => w_X4_addItem B a0 0 z7.1 (-1) t12 (fun t13 => J85 t13) X) X) ∧ (¬ ((v_X8_isEmpty (v_X9_row a1 (fI z7.2 112 a0) z7.1 z7.2) z7.2) = 0) → (d_X4_isRestLast a0 z7.2) ∧ ∃ J78 : CS → Prop, (∀ t15 : CS, J78 t15 → (w_X4_addItem B a0 1 z7.1 (-1) t15 (fun t16 => J85 t16) X)) ∧ ((((v_X4_isRestLast a0 z7.2) = 0) → J78 z7.2) ∧ (¬ ((v_X4_isRestLast a0 z7.2) = 0) → w_X9_isRestParted B a1 z7.1 z7.2 (fun r17 t17 => ((r17 = 0) → (vp_in ((fI t17 118 a0) - 1) (cLN 115)) ∧ (vp_in ((fI t17 118 a0) - 1) (cLN 115)) ∧ ∀ t20 : CS, t20 = usA t17 115 a0 ((fI t17 118 a0) - 1) ((fA t17 115 a0 (Int32.toNatClampNeg ((fI t17 118 a0) - 1))) + 1) → J85 t20) ∧ (¬ (r17 = 0) → J78 t17)) X)))))
def w_X4_layItems (B : Nat × Nat) (a0 : Nat) (a1 : Nat) (t : CS) (Q : CS → Prop) (X : String → CS → Prop) : Prop := (kdC t a0 = 7) ∧ ∀ t2 : CS, t2 = usI t 118 a0 0 → ∃ n, lp (w_X4_layItems_L7 B a0 a1 Q X) n (0, t2)
set_option maxRecDepth 20000 in
set_option maxHeartbeats 2000000 in
theorem c_X4_layItems (l : Launch) (D : va_G) (K : Nat → ClassId) (E0 : Nat) (B : Nat × Nat) (A0 : Nat → Prop) (a0 : Nat) (a1 : Nat) (t : CS) (Q : CS → Prop) (X : String → CS → Prop) (h : w_X4_layItems B a0 a1 t Q X) : MetC l yX4_layItems cX4_layItems 3 none 6 [.ref a0, .ref a1] (qV Q) X D K E0 B A0 t := by
  unfold w_X4_layItems at h
  refine gc_start (by decide) rfl (Nat.le_of_ble_eq_true rfl) (fun p e s m args below meth c C E => ?_)
  refine gc_aloadn C 0 0 dX4_layItems_0 rfl rfl ?_
  refine gc_iconst C 0 dX4_layItems_1 (by decide) ?_
  obtain ⟨g1, h⟩ := h
  refine gc_putI C BX4 118 6 (by decide) rfl .int ft_118 vf_X4_48 rfl rfl (by decide +kernel) rfl rfl (isC_of g1 (by decide)) dX4_layItems_2 ?_
  refine gc_nameS (fun t2 et2 => ?_)
  have h := h t2 et2
  have lt2 : kdLe t t2 := kdLe.eq (by rw [et2]; rfl)
  refine gc_iconst C 0 dX4_layItems_5 (by decide) ?_
  refine gc_istoren C 2 [(2, .int 0), (0, .ref a0), (1, .ref a1)] dX4_layItems_6 rfl (by decide) rfl ?_
  refine gc_sub [1, 2, 0] rfl ?_
  obtain ⟨n7, h⟩ := h
  have k7 : ∀ (n7 : Nat) (z7 : Int32 × CS), kdLe t2 z7.2 → lp (w_X4_layItems_L7 B a0 a1 Q X) n7 z7 → GC p l e (rmC 6 B t) s m args below meth c 3 D K E0 B A0 (gc_Q below D K E0 A0 (qV Q) X args s t (rmC 6 B t)) z7.2 7 [(0, .ref a0), (1, .ref a1), (2, .int z7.1)] [] := by
    intro n7
    induction n7 with
    | zero => intro z7 lz7 h; exact h.elim
    | succ n7 ih7 =>
      intro z7 lz7 h
      have h : w_X4_layItems_L7 B a0 a1 Q X (lp (w_X4_layItems_L7 B a0 a1 Q X) n7) z7 := h
      unfold w_X4_layItems_L7 at h
      refine gc_iloadn C 2 2 dX4_layItems_7 rfl rfl ?_
      refine gc_aloadn C 1 1 dX4_layItems_8 rfl rfl ?_
      obtain ⟨g3, h⟩ := h
      obtain ⟨g4, h⟩ := h
      refine gc_callV C BX9 (y := yX9_barCount) (as := []) rfl (by decide) (by decide) (c_X9_barCount l D K E0 B A0 a1 z7.2 g4) hk_X9_barCount rfl vl_X4_51 kc_X9_barCount (isC_of g3 (by decide)) dX4_layItems_9 (Nat.le_of_ble_eq_true rfl) (fun _ _ h => h.elim) (qkIP ?_)
      refine gc_icmp_ge C 91 dX4_layItems_12 (by decide) (fun c12_1 => ?_) (fun c12_1 => ?_)
      · have h := h.1 c12_1
        refine gc_iconst C 0 dX4_layItems_91 (by decide) ?_
        refine gc_istoren C 2 [(2, .int 0), (0, .ref a0), (1, .ref a1)] dX4_layItems_92 rfl (by decide) rfl ?_
        refine gc_sub [1, 2, 0] rfl ?_
        obtain ⟨n93, h⟩ := h
        have k93 : ∀ (n93 : Nat) (z93 : Int32 × CS), kdLe z7.2 z93.2 → lp (w_X4_layItems_L93 B a0 a1 Q X) n93 z93 → GC p l e (rmC 6 B t) s m args below meth c 3 D K E0 B A0 (gc_Q below D K E0 A0 (qV Q) X args s t (rmC 6 B t)) z93.2 93 [(0, .ref a0), (1, .ref a1), (2, .int z93.1)] [] := by
          intro n93
          induction n93 with
          | zero => intro z93 lz93 h; exact h.elim
          | succ n93 ih93 =>
            intro z93 lz93 h
            have h : w_X4_layItems_L93 B a0 a1 Q X (lp (w_X4_layItems_L93 B a0 a1 Q X) n93) z93 := h
            unfold w_X4_layItems_L93 at h
            refine gc_iloadn C 2 2 dX4_layItems_93 rfl rfl ?_
            refine gc_aloadn C 0 0 dX4_layItems_94 rfl rfl ?_
            refine gc_getI C BX4 118 6 (by decide) rfl ft_118 vf_X4_48 rfl (isC_of (kdLe.k (kdLe.tr lt2 (kdLe.tr lz7 lz93)) g1 (by decide) (by decide)) (by decide)) dX4_layItems_95 ?_
            refine gc_icmp_ge C 119 dX4_layItems_98 (by decide) (fun c98_2 => ?_) (fun c98_2 => ?_)
            · have h := h.1 c98_2
              exact gc_vret C E (kdLe.tr lt2 (kdLe.tr lz7 lz93)) dX4_layItems_119 ⟨rfl, h⟩
            · have h := h.2 c98_2
              refine gc_aloadn C 0 0 dX4_layItems_101 rfl rfl ?_
              refine gc_getE C BX4 117 5 (by decide) rfl fe_117 vf_X4_24 rfl (kdLe.k (kdLe.tr lt2 (kdLe.tr lz7 lz93)) g1 (by decide) (by decide)) dX4_layItems_102 ?_
              refine gc_iloadn C 2 2 dX4_layItems_105 rfl rfl ?_
              refine gc_aloadn C 0 0 dX4_layItems_106 rfl rfl ?_
              refine gc_aloadn C 1 1 dX4_layItems_107 rfl rfl ?_
              refine gc_iloadn C 2 2 dX4_layItems_108 rfl rfl ?_
              refine gc_callV C BX4 (y := yX4_widthOf) (as := [.ref a1, .int z93.1]) rfl (by decide) (by decide) (c_X4_widthOf l D K E0 B A0 a0 a1 z93.1 z93.2 _ X h) hk_X4_widthOf rfl vl_X4_82 kc_X4_widthOf (isC_of (kdLe.k (kdLe.tr lt2 (kdLe.tr lz7 lz93)) g1 (by decide) (by decide)) (by decide)) dX4_layItems_109 (Nat.le_of_ble_eq_true rfl) (fun _ _ h => h) (qkI (fun r5 t5 h lt5 => ?_))
              obtain ⟨g6, h⟩ := h
              refine gc_iast C (ci := 7) (k0 := 5) 117 (by decide) (by decide) (by decide) rfl ft_117 (by decide) (kdLe.k (kdLe.tr lt2 (kdLe.tr lz7 (kdLe.tr lz93 lt5))) g1 (by decide) (by decide)) g6 dX4_layItems_112 ?_
              refine gc_nameS (fun t7 et7 => ?_)
              have h := h t7 et7
              have lt7 : kdLe t5 t7 := kdLe.eq (by rw [et7]; rfl)
              refine gc_iinc C 2 (z93.1 + 1) [(2, .int (z93.1 + 1)), (0, .ref a0), (1, .ref a1)] dX4_layItems_113 rfl rfl (by decide) rfl ?_
              refine gc_goto C 93 dX4_layItems_116 (by decide) ?_
              refine gc_sub [1, 2, 0] rfl ?_
              have h9 := ih93 ((z93.1 + 1), t7) (kdLe.tr lz93 (kdLe.tr lt5 lt7)) h
              exact h9
        exact k93 n93 (0, z7.2) (kdLe.rf _) h
      · have h := h.2 c12_1
        refine gc_aloadn C 1 1 dX4_layItems_15 rfl rfl ?_
        refine gc_aloadn C 0 0 dX4_layItems_16 rfl rfl ?_
        refine gc_getI C BX4 112 0 (by decide) rfl ft_112 vf_X4_45 rfl (isC_of (kdLe.k (kdLe.tr lt2 lz7) g1 (by decide) (by decide)) (by decide)) dX4_layItems_17 ?_
        refine gc_iloadn C 2 2 dX4_layItems_20 rfl rfl ?_
        obtain ⟨g8, h⟩ := h
        refine gc_callV C BX9 (y := yX9_row) (as := [.int (fI z7.2 112 a0), .int z7.1]) rfl (by decide) (by decide) (c_X9_row l D K E0 B A0 a1 (fI z7.2 112 a0) z7.1 z7.2 g8) hk_X9_row rfl vl_X4_57 kc_X9_row (isC_of g3 (by decide)) dX4_layItems_21 (Nat.le_of_ble_eq_true rfl) (fun _ _ h => h.elim) (qkRP ?_)
        obtain ⟨g9, h⟩ := h
        obtain ⟨g10, h⟩ := h
        refine gc_callV C BX8 (y := yX8_isEmpty) (as := []) rfl (by decide) (by decide) (c_X8_isEmpty l D K E0 B A0 (v_X9_row a1 (fI z7.2 112 a0) z7.1 z7.2) z7.2 g10) hk_X8_isEmpty rfl vl_X4_61 kc_X8_isEmpty (isC_of g9 (by decide)) dX4_layItems_24 (Nat.le_of_ble_eq_true rfl) (fun _ _ h => h.elim) (qkIP ?_)
        obtain ⟨J85, hJ85, h⟩ := h
        have k85 : ∀ t11 : CS, kdLe z7.2 t11 → J85 t11 → GC p l e (rmC 6 B t) s m args below meth c 3 D K E0 B A0 (gc_Q below D K E0 A0 (qV Q) X args s t (rmC 6 B t)) t11 85 [(0, .ref a0), (1, .ref a1), (2, .int z7.1)] [] := by
          intro t11 lt11 h
          have h := hJ85 t11 h
          refine gc_iinc C 2 (z7.1 + 1) [(2, .int (z7.1 + 1)), (0, .ref a0), (1, .ref a1)] dX4_layItems_85 rfl rfl (by decide) rfl ?_
          refine gc_goto C 7 dX4_layItems_88 (by decide) ?_
          refine gc_sub [1, 2, 0] rfl ?_
          have h9 := ih7 ((z7.1 + 1), t11) (kdLe.tr lz7 lt11) h
          exact h9
        refine gc_if_ne C 45 dX4_layItems_27 (by decide) (fun c27_3 => ?_) (fun c27_3 => ?_)
        · have h := h.2 c27_3
          refine gc_aloadn C 0 0 dX4_layItems_45 rfl rfl ?_
          obtain ⟨g14, h⟩ := h
          refine gc_callV C BX4 (y := yX4_isRestLast) (as := []) rfl (by decide) (by decide) (c_X4_isRestLast l D K E0 B A0 a0 z7.2 g14) hk_X4_isRestLast rfl vl_X4_75 kc_X4_isRestLast (isC_of (kdLe.k (kdLe.tr lt2 lz7) g1 (by decide) (by decide)) (by decide)) dX4_layItems_46 (Nat.le_of_ble_eq_true rfl) (fun _ _ h => h.elim) (qkIP ?_)
          obtain ⟨J78, hJ78, h⟩ := h
          have k78 : ∀ t15 : CS, kdLe z7.2 t15 → J78 t15 → GC p l e (rmC 6 B t) s m args below meth c 3 D K E0 B A0 (gc_Q below D K E0 A0 (qV Q) X args s t (rmC 6 B t)) t15 78 [(0, .ref a0), (1, .ref a1), (2, .int z7.1)] [] := by
            intro t15 lt15 h
            have h := hJ78 t15 h
            refine gc_aloadn C 0 0 dX4_layItems_78 rfl rfl ?_
            refine gc_iconst C 1 dX4_layItems_79 (by decide) ?_
            refine gc_iloadn C 2 2 dX4_layItems_80 rfl rfl ?_
            refine gc_iconst C (-1) dX4_layItems_81 (by decide) ?_
            refine gc_callV C BX4 (y := yX4_addItem) (as := [.int 1, .int z7.1, .int (-1)]) rfl (by decide) (by decide) (c_X4_addItem l D K E0 B A0 a0 1 z7.1 (-1) t15 _ X h) hk_X4_addItem rfl vl_X4_71 kc_X4_addItem (isC_of (kdLe.k (kdLe.tr lt2 (kdLe.tr lz7 lt15)) g1 (by decide) (by decide)) (by decide)) dX4_layItems_82 (Nat.le_of_ble_eq_true rfl) (fun _ _ h => h) (qkV (fun t16 h lt16 => ?_))
            exact k85 t16 (kdLe.tr lt15 lt16) h
          refine gc_if_eq C 78 dX4_layItems_49 (by decide) (fun c49_4 => ?_) (fun c49_4 => ?_)
          · have h := h.1 c49_4
            exact k78 z7.2 (kdLe.rf _) h
          · have h := h.2 c49_4
            refine gc_aloadn C 1 1 dX4_layItems_52 rfl rfl ?_
            refine gc_iloadn C 2 2 dX4_layItems_53 rfl rfl ?_
            refine gc_callV C BX9 (y := yX9_isRestParted) (as := [.int z7.1]) rfl (by decide) (by decide) (c_X9_isRestParted l D K E0 B A0 a1 z7.1 z7.2 _ X h) hk_X9_isRestParted rfl vl_X4_78 kc_X9_isRestParted (isC_of g3 (by decide)) dX4_layItems_54 (Nat.le_of_ble_eq_true rfl) (fun _ _ h => h) (qkI (fun r17 t17 h lt17 => ?_))
            refine gc_if_ne C 78 dX4_layItems_57 (by decide) (fun c57_5 => ?_) (fun c57_5 => ?_)
            · have h := h.2 c57_5
              exact k78 t17 lt17 h
            · have h := h.1 c57_5
              refine gc_aloadn C 0 0 dX4_layItems_60 rfl rfl ?_
              refine gc_getE C BX4 115 3 (by decide) rfl fe_115 vf_X4_18 rfl (kdLe.k (kdLe.tr lt2 (kdLe.tr lz7 lt17)) g1 (by decide) (by decide)) dX4_layItems_61 ?_
              refine gc_aloadn C 0 0 dX4_layItems_64 rfl rfl ?_
              refine gc_getI C BX4 118 6 (by decide) rfl ft_118 vf_X4_48 rfl (isC_of (kdLe.k (kdLe.tr lt2 (kdLe.tr lz7 lt17)) g1 (by decide) (by decide)) (by decide)) dX4_layItems_65 ?_
              refine gc_iconst C 1 dX4_layItems_68 (by decide) ?_
              refine gc_isub C dX4_layItems_69 ?_
              refine gc_dup2 C dX4_layItems_70 rfl rfl ?_
              obtain ⟨g18, h⟩ := h
              refine gc_iald C (ci := 7) (k0 := 3) 115 (by decide) (by decide) (by decide) rfl ft_115 (by decide) (kdLe.k (kdLe.tr lt2 (kdLe.tr lz7 lt17)) g1 (by decide) (by decide)) g18 dX4_layItems_71 ?_
              refine gc_iconst C 1 dX4_layItems_72 (by decide) ?_
              refine gc_iadd C dX4_layItems_73 ?_
              obtain ⟨g19, h⟩ := h
              refine gc_iast C (ci := 7) (k0 := 3) 115 (by decide) (by decide) (by decide) rfl ft_115 (by decide) (kdLe.k (kdLe.tr lt2 (kdLe.tr lz7 lt17)) g1 (by decide) (by decide)) g19 dX4_layItems_74 ?_
              refine gc_nameS (fun t20 et20 => ?_)
              have h := h t20 et20
              have lt20 : kdLe t17 t20 := kdLe.eq (by rw [et20]; rfl)
              refine gc_goto C 85 dX4_layItems_75 (by decide) ?_
              exact k85 t20 (kdLe.tr lt17 lt20) h
        · have h := h.1 c27_3
          refine gc_aloadn C 0 0 dX4_layItems_30 rfl rfl ?_
          refine gc_aloadn C 1 1 dX4_layItems_31 rfl rfl ?_
          refine gc_callV C BX4 (y := yX4_partCueFromRest) (as := [.ref a1]) rfl (by decide) (by decide) (c_X4_partCueFromRest l D K E0 B A0 a0 a1 z7.2 _ X h) hk_X4_partCueFromRest rfl vl_X4_67 kc_X4_partCueFromRest (isC_of (kdLe.k (kdLe.tr lt2 lz7) g1 (by decide) (by decide)) (by decide)) dX4_layItems_32 (Nat.le_of_ble_eq_true rfl) (fun _ _ h => h) (qkV (fun t12 h lt12 => ?_))
          refine gc_aloadn C 0 0 dX4_layItems_35 rfl rfl ?_
          refine gc_iconst C 0 dX4_layItems_36 (by decide) ?_
          refine gc_iloadn C 2 2 dX4_layItems_37 rfl rfl ?_
          refine gc_iconst C (-1) dX4_layItems_38 (by decide) ?_
          refine gc_callV C BX4 (y := yX4_addItem) (as := [.int 0, .int z7.1, .int (-1)]) rfl (by decide) (by decide) (c_X4_addItem l D K E0 B A0 a0 0 z7.1 (-1) t12 _ X h) hk_X4_addItem rfl vl_X4_71 kc_X4_addItem (isC_of (kdLe.k (kdLe.tr lt2 (kdLe.tr lz7 lt12)) g1 (by decide) (by decide)) (by decide)) dX4_layItems_39 (Nat.le_of_ble_eq_true rfl) (fun _ _ h => h) (qkV (fun t13 h lt13 => ?_))
          refine gc_goto C 85 dX4_layItems_42 (by decide) ?_
          exact k85 t13 (kdLe.tr lt12 lt13) h
  exact k7 n7 (0, t2) (kdLe.rf _) h
def v_X1_badnessOf (a1 : Int32) (a2 : Int32) (a3 : Int32) : Int32 := (if a1 ≤ a2 then (if a3 = 0 then ((a2 - a1) * (a2 - a1)) else (((a2 - a1) * (a2 - a1)) / 4)) else (1000000 + ((a2 - a1) * (a2 - a1))))
set_option maxRecDepth 20000 in
theorem c_X1_badnessOf (l : Launch) (D : va_G) (K : Nat → ClassId) (E0 : Nat) (B : Nat × Nat) (A0 : Nat → Prop) (a1 : Int32) (a2 : Int32) (a3 : Int32) (t : CS) : MetC l yX1_badnessOf cX1_badnessOf 4 (some .int) 0 [.int a1, .int a2, .int a3] (qI (fun r t' => (v_X1_badnessOf a1 a2 a3) = r ∧ t = t')) (fun _ _ => False) D K E0 B A0 t := by
  refine gc_start (by decide) rfl (Nat.le_of_ble_eq_true rfl) (fun p e s m args below meth c C E => ?_)
  refine gc_iloadn C 1 1 dX1_badnessOf_0 rfl rfl ?_
  refine gc_iloadn C 0 0 dX1_badnessOf_1 rfl rfl ?_
  refine gc_isub C dX1_badnessOf_2 ?_
  refine gc_iloadn C 1 1 dX1_badnessOf_3 rfl rfl ?_
  refine gc_iloadn C 0 0 dX1_badnessOf_4 rfl rfl ?_
  refine gc_isub C dX1_badnessOf_5 ?_
  refine gc_imul C dX1_badnessOf_6 ?_
  refine gc_istoren C 3 [(3, .int ((a2 - a1) * (a2 - a1))), (0, .int a1), (1, .int a2), (2, .int a3)] dX1_badnessOf_7 rfl (by decide) rfl ?_
  refine gc_iloadn C 1 0 dX1_badnessOf_8 rfl rfl ?_
  refine gc_iloadn C 2 1 dX1_badnessOf_9 rfl rfl ?_
  refine gc_icmp_le C 18 dX1_badnessOf_10 (by decide) (fun c10_1 => ?_) (fun c10_1 => ?_)
  · refine gc_iloadn C 3 2 dX1_badnessOf_18 rfl rfl ?_
    refine gc_if_eq C 28 dX1_badnessOf_19 (by decide) (fun c19_2 => ?_) (fun c19_2 => ?_)
    · refine gc_iloadn C 0 3 dX1_badnessOf_28 rfl rfl ?_
      exact gc_iret C E (kdLe.rf _) dX1_badnessOf_29 ⟨_, rfl, (Eq.symm (((Eq.trans (if_pos c10_1) (if_pos c19_2))).symm)), rfl⟩
    · refine gc_iloadn C 0 3 dX1_badnessOf_22 rfl rfl ?_
      refine gc_iconst C 4 dX1_badnessOf_23 (by decide) ?_
      refine gc_idiv C dX1_badnessOf_24 (by decide) ?_
      refine gc_goto C 29 dX1_badnessOf_25 (by decide) ?_
      exact gc_iret C E (kdLe.rf _) dX1_badnessOf_29 ⟨_, rfl, (Eq.symm (((Eq.trans (if_pos c10_1) (if_neg c19_2))).symm)), rfl⟩
  · refine gc_ldc C 1000000 v_i853 dX1_badnessOf_13 ?_
    refine gc_iloadn C 0 3 dX1_badnessOf_15 rfl rfl ?_
    refine gc_iadd C dX1_badnessOf_16 ?_
    exact gc_iret C E (kdLe.rf _) dX1_badnessOf_17 ⟨_, rfl, (Eq.symm (((if_neg c10_1)).symm)), rfl⟩
def w_X1_weighLinesFrom_L53 (a0 : Nat) (a1 : Int32) (a2 : Nat) (a3 : Int32) (a4 : Int32) (Q : CS → Prop) (K53 : (Int32 × Int32 × CS) → Prop) (z53 : Int32 × Int32 × CS) : Prop := ((a3 < z53.2.1) → Q z53.2.2) ∧ (¬ (a3 < z53.2.1) → (vp_in (z53.2.1 - 1) (cLN 117)) ∧ ∀ x13 : Int32, x13 = (z53.1 + (fA z53.2.2 117 a2 (Int32.toNatClampNeg (z53.2.1 - 1)))) → ((x13 ≤ a4) → ∀ x14 : Int32, x14 = (if z53.2.1 = a3 then 1 else 0) → (vp_in z53.2.1 (cLN 66)) ∧ ∀ x16 : Int32, x16 = ((v_X1_badnessOf x13 a4 x14) + (fA z53.2.2 66 a0 (Int32.toNatClampNeg z53.2.1))) → (vp_in a1 (cLN 66)) ∧ ∃ J133 : CS → Prop, (∀ t18 : CS, J133 t18 → (K53 (x13, (z53.2.1 + 1), t18))) ∧ ((((fA z53.2.2 66 a0 (Int32.toNatClampNeg a1)) < x16) → J133 z53.2.2) ∧ (¬ ((fA z53.2.2 66 a0 (Int32.toNatClampNeg a1)) < x16) → (vp_in a1 (cLN 66)) ∧ ∀ t20 : CS, t20 = usA z53.2.2 66 a0 a1 x16 → (vp_in a1 (cLN 67)) ∧ ∀ t22 : CS, t22 = usA t20 67 a0 a1 z53.2.1 → J133 t22))) ∧ (¬ (x13 ≤ a4) → Q z53.2.2))
def w_X1_weighLinesFrom (B : Nat × Nat) (a0 : Nat) (a1 : Int32) (a2 : Nat) (a3 : Int32) (a4 : Int32) (t : CS) (Q : CS → Prop) (X : String → CS → Prop) : Prop := (kdC t a2 = 7) ∧ (vp_in a1 (cLN 117)) ∧ ∀ x3 : Int32, x3 = (fA t 117 a2 (Int32.toNatClampNeg a1)) → (kdC t a0 = 4) ∧ ∀ x5 : Int32, x5 = (if (a1 + 1) = a3 then 1 else 0) → (vp_in (a1 + 1) (cLN 66)) ∧ (vp_in a1 (cLN 66)) ∧ ∀ t8 : CS, t8 = usA t 66 a0 a1 ((v_X1_badnessOf x3 a4 x5) + (fA t 66 a0 (Int32.toNatClampNeg (a1 + 1)))) → (vp_in a1 (cLN 67)) ∧ ∀ t10 : CS, t10 = usA t8 67 a0 a1 (a1 + 1) → ∀ x11 : Int32, x11 = (a1 + 2) → ∃ n, lp (w_X1_weighLinesFrom_L53 a0 a1 a2 a3 a4 Q) n (x3, x11, t10)
set_option maxRecDepth 20000 in
set_option maxHeartbeats 2000000 in
theorem c_X1_weighLinesFrom (l : Launch) (D : va_G) (K : Nat → ClassId) (E0 : Nat) (B : Nat × Nat) (A0 : Nat → Prop) (a0 : Nat) (a1 : Int32) (a2 : Nat) (a3 : Int32) (a4 : Int32) (t : CS) (Q : CS → Prop) (X : String → CS → Prop) (h : w_X1_weighLinesFrom B a0 a1 a2 a3 a4 t Q X) : MetC l yX1_weighLinesFrom cX1_weighLinesFrom 8 none 1 [.ref a0, .int a1, .ref (a2 + cOF 117), .int a3, .int a4] (qV Q) X D K E0 B A0 t := by
  unfold w_X1_weighLinesFrom at h
  refine gc_start (by decide) rfl (Nat.le_of_ble_eq_true rfl) (fun p e s m args below meth c C E => ?_)
  refine gc_aloadn C 2 2 dX1_weighLinesFrom_0 rfl rfl ?_
  refine gc_iloadn C 1 1 dX1_weighLinesFrom_1 rfl rfl ?_
  obtain ⟨g1, h⟩ := h
  obtain ⟨g2, h⟩ := h
  refine gc_iald C (ci := 7) (k0 := 5) 117 (by decide) (by decide) (by decide) rfl ft_117 (by decide) g1 g2 dX1_weighLinesFrom_2 ?_
  refine gc_nameI (fun x3 ex3 => ?_)
  have h := h x3 ex3
  refine gc_istore C [(5, .int x3), (0, .ref a0), (1, .int a1), (2, .ref (a2 + cOF 117)), (3, .int a3), (4, .int a4)] dX1_weighLinesFrom_3 (by decide) rfl ?_
  refine gc_aloadn C 1 0 dX1_weighLinesFrom_5 rfl rfl ?_
  obtain ⟨g4, h⟩ := h
  refine gc_getE C BX1 66 2 (by decide) rfl fe_66 vf_X1_15 rfl g4 dX1_weighLinesFrom_6 ?_
  refine gc_iloadn C 2 1 dX1_weighLinesFrom_9 rfl rfl ?_
  refine gc_iload C 0 dX1_weighLinesFrom_10 rfl ?_
  refine gc_iload C 5 dX1_weighLinesFrom_12 rfl ?_
  refine gc_iloadn C 2 1 dX1_weighLinesFrom_14 rfl rfl ?_
  refine gc_iconst C 1 dX1_weighLinesFrom_15 (by decide) ?_
  refine gc_iadd C dX1_weighLinesFrom_16 ?_
  refine gc_iloadn C 4 3 dX1_weighLinesFrom_17 rfl rfl ?_
  have k26 : ∀ x5 : Int32, x5 = (if (a1 + 1) = a3 then 1 else 0) → GC p l e (rmC 1 B t) s m args below meth c 8 D K E0 B A0 (gc_Q below D K E0 A0 (qV Q) X args s t (rmC 1 B t)) t 26 [(0, .ref a0), (1, .int a1), (2, .ref (a2 + cOF 117)), (3, .int a3), (4, .int a4), (5, .int x3)] [.int x5, .int a4, .int x3, .int a1, .ref (a0 + cOF 66)] := by
    intro x5 ex5
    have h := h x5 ex5
    refine gc_callS C (y := yX1_badnessOf) (as := [.int x3, .int a4, .int x5]) rfl (by decide) (by decide) (c_X1_badnessOf l D K E0 B A0 x3 a4 x5 t) hk_X1_badnessOf rfl vl_X1_35 kc_X1_badnessOf dX1_weighLinesFrom_26 (Nat.le_of_ble_eq_true rfl) (fun _ _ h => h.elim) (qkIP ?_)
    refine gc_aloadn C 0 0 dX1_weighLinesFrom_29 rfl rfl ?_
    refine gc_getE C BX1 66 2 (by decide) rfl fe_66 vf_X1_15 rfl g4 dX1_weighLinesFrom_30 ?_
    refine gc_iloadn C 1 1 dX1_weighLinesFrom_33 rfl rfl ?_
    refine gc_iconst C 1 dX1_weighLinesFrom_34 (by decide) ?_
    refine gc_iadd C dX1_weighLinesFrom_35 ?_
    obtain ⟨g6, h⟩ := h
    refine gc_iald C (ci := 4) (k0 := 2) 66 (by decide) (by decide) (by decide) rfl ft_66 (by decide) g4 g6 dX1_weighLinesFrom_36 ?_
    refine gc_iadd C dX1_weighLinesFrom_37 ?_
    obtain ⟨g7, h⟩ := h
    refine gc_iast C (ci := 4) (k0 := 2) 66 (by decide) (by decide) (by decide) rfl ft_66 (by decide) g4 g7 dX1_weighLinesFrom_38 ?_
    refine gc_nameS (fun t8 et8 => ?_)
    have h := h t8 et8
    have lt8 : kdLe t t8 := kdLe.eq (by rw [et8]; rfl)
    refine gc_aloadn C 0 0 dX1_weighLinesFrom_39 rfl rfl ?_
    refine gc_getE C BX1 67 3 (by decide) rfl fe_67 vf_X1_18 rfl (kdLe.k lt8 g4 (by decide) (by decide)) dX1_weighLinesFrom_40 ?_
    refine gc_iloadn C 1 1 dX1_weighLinesFrom_43 rfl rfl ?_
    refine gc_iloadn C 1 1 dX1_weighLinesFrom_44 rfl rfl ?_
    refine gc_iconst C 1 dX1_weighLinesFrom_45 (by decide) ?_
    refine gc_iadd C dX1_weighLinesFrom_46 ?_
    obtain ⟨g9, h⟩ := h
    refine gc_iast C (ci := 4) (k0 := 3) 67 (by decide) (by decide) (by decide) rfl ft_67 (by decide) (kdLe.k lt8 g4 (by decide) (by decide)) g9 dX1_weighLinesFrom_47 ?_
    refine gc_nameS (fun t10 et10 => ?_)
    have h := h t10 et10
    have lt10 : kdLe t8 t10 := kdLe.eq (by rw [et10]; rfl)
    refine gc_iloadn C 1 1 dX1_weighLinesFrom_48 rfl rfl ?_
    refine gc_iconst C 2 dX1_weighLinesFrom_49 (by decide) ?_
    refine gc_iadd C dX1_weighLinesFrom_50 ?_
    refine gc_nameI (fun x11 ex11 => ?_)
    have h := h x11 ex11
    refine gc_istore C [(6, .int x11), (0, .ref a0), (1, .int a1), (2, .ref (a2 + cOF 117)), (3, .int a3), (4, .int a4), (5, .int x3)] dX1_weighLinesFrom_51 (by decide) rfl ?_
    refine gc_sub [1, 2, 3, 4, 5, 6, 0] rfl ?_
    obtain ⟨n53, h⟩ := h
    have k53 : ∀ (n53 : Nat) (z53 : Int32 × Int32 × CS), kdLe t10 z53.2.2 → lp (w_X1_weighLinesFrom_L53 a0 a1 a2 a3 a4 Q) n53 z53 → GC p l e (rmC 1 B t) s m args below meth c 8 D K E0 B A0 (gc_Q below D K E0 A0 (qV Q) X args s t (rmC 1 B t)) z53.2.2 53 [(0, .ref a0), (1, .int a1), (2, .ref (a2 + cOF 117)), (3, .int a3), (4, .int a4), (5, .int z53.1), (6, .int z53.2.1)] [] := by
      intro n53
      induction n53 with
      | zero => intro z53 lz53 h; exact h.elim
      | succ n53 ih53 =>
        intro z53 lz53 h
        have h : w_X1_weighLinesFrom_L53 a0 a1 a2 a3 a4 Q (lp (w_X1_weighLinesFrom_L53 a0 a1 a2 a3 a4 Q) n53) z53 := h
        unfold w_X1_weighLinesFrom_L53 at h
        refine gc_iload C 6 dX1_weighLinesFrom_53 rfl ?_
        refine gc_iloadn C 3 3 dX1_weighLinesFrom_55 rfl rfl ?_
        refine gc_icmp_gt C 139 dX1_weighLinesFrom_56 (by decide) (fun c56_2 => ?_) (fun c56_2 => ?_)
        · have h := h.1 c56_2
          exact gc_vret C E (kdLe.tr lt8 (kdLe.tr lt10 lz53)) dX1_weighLinesFrom_139 ⟨rfl, h⟩
        · have h := h.2 c56_2
          refine gc_iload C 5 dX1_weighLinesFrom_59 rfl ?_
          refine gc_aloadn C 2 2 dX1_weighLinesFrom_61 rfl rfl ?_
          refine gc_iload C 6 dX1_weighLinesFrom_62 rfl ?_
          refine gc_iconst C 1 dX1_weighLinesFrom_64 (by decide) ?_
          refine gc_isub C dX1_weighLinesFrom_65 ?_
          obtain ⟨g12, h⟩ := h
          refine gc_iald C (ci := 7) (k0 := 5) 117 (by decide) (by decide) (by decide) rfl ft_117 (by decide) (kdLe.k (kdLe.tr lt8 (kdLe.tr lt10 lz53)) g1 (by decide) (by decide)) g12 dX1_weighLinesFrom_66 ?_
          refine gc_iadd C dX1_weighLinesFrom_67 ?_
          refine gc_nameI (fun x13 ex13 => ?_)
          have h := h x13 ex13
          refine gc_istore C [(5, .int x13), (0, .ref a0), (1, .int a1), (2, .ref (a2 + cOF 117)), (3, .int a3), (4, .int a4), (6, .int z53.2.1)] dX1_weighLinesFrom_68 (by decide) rfl ?_
          refine gc_iload C 0 dX1_weighLinesFrom_70 rfl ?_
          refine gc_iload C 5 dX1_weighLinesFrom_72 rfl ?_
          refine gc_icmp_le C 78 dX1_weighLinesFrom_74 (by decide) (fun c74_3 => ?_) (fun c74_3 => ?_)
          · have h := h.1 c74_3
            refine gc_iload C 0 dX1_weighLinesFrom_78 rfl ?_
            refine gc_iload C 5 dX1_weighLinesFrom_80 rfl ?_
            refine gc_iload C 6 dX1_weighLinesFrom_82 rfl ?_
            refine gc_iloadn C 4 3 dX1_weighLinesFrom_84 rfl rfl ?_
            have k93 : ∀ x14 : Int32, x14 = (if z53.2.1 = a3 then 1 else 0) → GC p l e (rmC 1 B t) s m args below meth c 8 D K E0 B A0 (gc_Q below D K E0 A0 (qV Q) X args s t (rmC 1 B t)) z53.2.2 93 [(0, .ref a0), (1, .int a1), (2, .ref (a2 + cOF 117)), (3, .int a3), (4, .int a4), (5, .int x13), (6, .int z53.2.1)] [.int x14, .int a4, .int x13] := by
              intro x14 ex14
              have h := h x14 ex14
              refine gc_callS C (y := yX1_badnessOf) (as := [.int x13, .int a4, .int x14]) rfl (by decide) (by decide) (c_X1_badnessOf l D K E0 B A0 x13 a4 x14 z53.2.2) hk_X1_badnessOf rfl vl_X1_35 kc_X1_badnessOf dX1_weighLinesFrom_93 (Nat.le_of_ble_eq_true rfl) (fun _ _ h => h.elim) (qkIP ?_)
              refine gc_aloadn C 0 0 dX1_weighLinesFrom_96 rfl rfl ?_
              refine gc_getE C BX1 66 2 (by decide) rfl fe_66 vf_X1_15 rfl (kdLe.k (kdLe.tr lt8 (kdLe.tr lt10 lz53)) g4 (by decide) (by decide)) dX1_weighLinesFrom_97 ?_
              refine gc_iload C 6 dX1_weighLinesFrom_100 rfl ?_
              obtain ⟨g15, h⟩ := h
              refine gc_iald C (ci := 4) (k0 := 2) 66 (by decide) (by decide) (by decide) rfl ft_66 (by decide) (kdLe.k (kdLe.tr lt8 (kdLe.tr lt10 lz53)) g4 (by decide) (by decide)) g15 dX1_weighLinesFrom_102 ?_
              refine gc_iadd C dX1_weighLinesFrom_103 ?_
              refine gc_nameI (fun x16 ex16 => ?_)
              have h := h x16 ex16
              refine gc_istore C [(7, .int x16), (0, .ref a0), (1, .int a1), (2, .ref (a2 + cOF 117)), (3, .int a3), (4, .int a4), (5, .int x13), (6, .int z53.2.1)] dX1_weighLinesFrom_104 (by decide) rfl ?_
              refine gc_iload C 0 dX1_weighLinesFrom_106 rfl ?_
              refine gc_aloadn C 1 0 dX1_weighLinesFrom_108 rfl rfl ?_
              refine gc_getE C BX1 66 2 (by decide) rfl fe_66 vf_X1_15 rfl (kdLe.k (kdLe.tr lt8 (kdLe.tr lt10 lz53)) g4 (by decide) (by decide)) dX1_weighLinesFrom_109 ?_
              refine gc_iloadn C 2 1 dX1_weighLinesFrom_112 rfl rfl ?_
              obtain ⟨g17, h⟩ := h
              refine gc_iald C (ci := 4) (k0 := 2) 66 (by decide) (by decide) (by decide) rfl ft_66 (by decide) (kdLe.k (kdLe.tr lt8 (kdLe.tr lt10 lz53)) g4 (by decide) (by decide)) g17 dX1_weighLinesFrom_113 ?_
              obtain ⟨J133, hJ133, h⟩ := h
              have k133 : ∀ t18 : CS, kdLe z53.2.2 t18 → J133 t18 → GC p l e (rmC 1 B t) s m args below meth c 8 D K E0 B A0 (gc_Q below D K E0 A0 (qV Q) X args s t (rmC 1 B t)) t18 133 [(0, .ref a0), (1, .int a1), (2, .ref (a2 + cOF 117)), (3, .int a3), (4, .int a4), (5, .int x13), (6, .int z53.2.1)] [] := by
                intro t18 lt18 h
                have h := hJ133 t18 h
                refine gc_iinc C 6 (z53.2.1 + 1) [(6, .int (z53.2.1 + 1)), (0, .ref a0), (1, .int a1), (2, .ref (a2 + cOF 117)), (3, .int a3), (4, .int a4), (5, .int x13)] dX1_weighLinesFrom_133 rfl rfl (by decide) rfl ?_
                refine gc_goto C 53 dX1_weighLinesFrom_136 (by decide) ?_
                refine gc_sub [1, 2, 3, 4, 5, 6, 0] rfl ?_
                have h9 := ih53 (x13, (z53.2.1 + 1), t18) (kdLe.tr lz53 lt18) h
                exact h9
              refine gc_icmp_gt C 133 dX1_weighLinesFrom_114 (by decide) (fun c114_5 => ?_) (fun c114_5 => ?_)
              · have h := h.1 c114_5
                refine gc_sub [1, 2, 3, 4, 5, 6, 7] rfl ?_
                exact k133 z53.2.2 (kdLe.rf _) h
              · have h := h.2 c114_5
                refine gc_aloadn C 1 0 dX1_weighLinesFrom_117 rfl rfl ?_
                refine gc_getE C BX1 66 2 (by decide) rfl fe_66 vf_X1_15 rfl (kdLe.k (kdLe.tr lt8 (kdLe.tr lt10 lz53)) g4 (by decide) (by decide)) dX1_weighLinesFrom_118 ?_
                refine gc_iloadn C 2 1 dX1_weighLinesFrom_121 rfl rfl ?_
                refine gc_iload C 0 dX1_weighLinesFrom_122 rfl ?_
                obtain ⟨g19, h⟩ := h
                refine gc_iast C (ci := 4) (k0 := 2) 66 (by decide) (by decide) (by decide) rfl ft_66 (by decide) (kdLe.k (kdLe.tr lt8 (kdLe.tr lt10 lz53)) g4 (by decide) (by decide)) g19 dX1_weighLinesFrom_124 ?_
                refine gc_nameS (fun t20 et20 => ?_)
                have h := h t20 et20
                have lt20 : kdLe z53.2.2 t20 := kdLe.eq (by rw [et20]; rfl)
                refine gc_aloadn C 1 0 dX1_weighLinesFrom_125 rfl rfl ?_
                refine gc_getE C BX1 67 3 (by decide) rfl fe_67 vf_X1_18 rfl (kdLe.k (kdLe.tr lt8 (kdLe.tr lt10 (kdLe.tr lz53 lt20))) g4 (by decide) (by decide)) dX1_weighLinesFrom_126 ?_
                refine gc_iloadn C 2 1 dX1_weighLinesFrom_129 rfl rfl ?_
                refine gc_iload C 7 dX1_weighLinesFrom_130 rfl ?_
                obtain ⟨g21, h⟩ := h
                refine gc_iast C (ci := 4) (k0 := 3) 67 (by decide) (by decide) (by decide) rfl ft_67 (by decide) (kdLe.k (kdLe.tr lt8 (kdLe.tr lt10 (kdLe.tr lz53 lt20))) g4 (by decide) (by decide)) g21 dX1_weighLinesFrom_132 ?_
                refine gc_nameS (fun t22 et22 => ?_)
                have h := h t22 et22
                have lt22 : kdLe t20 t22 := kdLe.eq (by rw [et22]; rfl)
                refine gc_sub [1, 2, 3, 4, 5, 6, 7] rfl ?_
                exact k133 t22 (kdLe.tr lt20 lt22) h
            refine gc_icmp_ne C 92 dX1_weighLinesFrom_85 (by decide) (fun c85_4 => ?_) (fun c85_4 => ?_)
            · refine gc_iconst C 0 dX1_weighLinesFrom_92 (by decide) ?_
              refine gc_sub [1, 2, 3, 4, 5, 0, 6] rfl ?_
              exact k93 _ ((if_neg c85_4).symm)
            · refine gc_iconst C 1 dX1_weighLinesFrom_88 (by decide) ?_
              refine gc_goto C 93 dX1_weighLinesFrom_89 (by decide) ?_
              refine gc_sub [1, 2, 3, 4, 5, 0, 6] rfl ?_
              exact k93 _ ((if_pos c85_4).symm)
          · have h := h.2 c74_3
            exact gc_vret C E (kdLe.tr lt8 (kdLe.tr lt10 lz53)) dX1_weighLinesFrom_77 ⟨rfl, h⟩
    exact k53 n53 (x3, x11, t10) (kdLe.rf _) h
  refine gc_icmp_ne C 25 dX1_weighLinesFrom_18 (by decide) (fun c18_1 => ?_) (fun c18_1 => ?_)
  · refine gc_iconst C 0 dX1_weighLinesFrom_25 (by decide) ?_
    refine gc_sub [1, 2, 3, 4, 5, 0] rfl ?_
    exact k26 _ ((if_neg c18_1).symm)
  · refine gc_iconst C 1 dX1_weighLinesFrom_21 (by decide) ?_
    refine gc_goto C 26 dX1_weighLinesFrom_22 (by decide) ?_
    refine gc_sub [1, 2, 3, 4, 5, 0] rfl ?_
    exact k26 _ ((if_pos c18_1).symm)
