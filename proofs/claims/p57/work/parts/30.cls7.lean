/-! THE CLASS, METHOD BY METHOD (7) -/
def w_X1_breakItems_L56 (a0 : Nat) (Q : CS → Prop) (x2 : Int32) (K56 : (Int32 × CS) → Prop) (z56 : Int32 × CS) : Prop := (((x2 ≤ z56.1) ∨ (24 ≤ (fI z56.2 65 a0))) → Q z56.2) ∧ (¬ ((x2 ≤ z56.1) ∨ (24 ≤ (fI z56.2 65 a0))) → (vp_in (fI z56.2 65 a0) (cLN 64)) ∧ ∀ t9 : CS, t9 = usA z56.2 64 a0 (fI z56.2 65 a0) z56.1 → ∀ t10 : CS, t10 = usI t9 65 a0 ((fI t9 65 a0) + 1) → (vp_in z56.1 (cLN 67)) ∧ ∀ x12 : Int32, x12 = (fA t10 67 a0 (Int32.toNatClampNeg z56.1)) → K56 (x12, t10))
def w_X1_breakItems_L27 (B : Nat × Nat) (a0 : Nat) (a1 : Nat) (a3 : Int32) (Q : CS → Prop) (X : String → CS → Prop) (x2 : Int32) (K27 : (Int32 × CS) → Prop) (z27 : Int32 × CS) : Prop := ((z27.1 < 0) → ∀ t7 : CS, t7 = usI z27.2 65 a0 0 → ∃ n, lp (w_X1_breakItems_L56 a0 Q x2) n (0, t7)) ∧ (¬ (z27.1 < 0) → w_X1_weighLinesFrom B a0 z27.1 a1 x2 a3 z27.2 (fun t13 => K27 ((z27.1 + (-1)), t13)) X)
def w_X1_breakItems (B : Nat × Nat) (a0 : Nat) (a1 : Nat) (a2 : Int32) (a3 : Int32) (t : CS) (Q : CS → Prop) (X : String → CS → Prop) : Prop := (kdC t a1 = 7) ∧ ∀ x2 : Int32, x2 = (mMin a2 (mMin 24 24)) → (kdC t a0 = 4) ∧ (vp_in x2 (cLN 66)) ∧ ∀ t5 : CS, t5 = usA t 66 a0 x2 0 → ∀ x6 : Int32, x6 = (x2 - 1) → ∃ n, lp (w_X1_breakItems_L27 B a0 a1 a3 Q X x2) n (x6, t5)
set_option maxRecDepth 20000 in
set_option maxHeartbeats 2000000 in
theorem c_X1_breakItems (l : Launch) (D : va_G) (K : Nat → ClassId) (E0 : Nat) (B : Nat × Nat) (A0 : Nat → Prop) (a0 : Nat) (a1 : Nat) (a2 : Int32) (a3 : Int32) (t : CS) (Q : CS → Prop) (X : String → CS → Prop) (h : w_X1_breakItems B a0 a1 a2 a3 t Q X) : MetC l yX1_breakItems cX1_breakItems 6 none 2 [.ref a0, .ref (a1 + cOF 117), .int a2, .int a3] (qV Q) X D K E0 B A0 t := by
  unfold w_X1_breakItems at h
  refine gc_start (by decide) rfl (Nat.le_of_ble_eq_true rfl) (fun p e s m args below meth c C E => ?_)
  refine gc_iloadn C 2 2 dX1_breakItems_0 rfl rfl ?_
  refine gc_aloadn C 1 1 dX1_breakItems_1 rfl rfl ?_
  obtain ⟨g1, h⟩ := h
  refine gc_alen C (ci := 7) (k0 := 5) 117 (by decide) (by decide) (by decide) rfl ft_117 (by decide) g1 24 (by decide +kernel) dX1_breakItems_2 ?_
  refine gc_bipush C 24 dX1_breakItems_3 (by decide) ?_
  refine gc_min C rfl (by decide) vm_X1_21 (Nat.le_of_ble_eq_true rfl) dX1_breakItems_5 ?_
  refine gc_min C rfl (by decide) vm_X1_21 (Nat.le_of_ble_eq_true rfl) dX1_breakItems_8 ?_
  refine gc_nameI (fun x2 ex2 => ?_)
  have h := h x2 ex2
  refine gc_istore C [(4, .int x2), (0, .ref a0), (1, .ref (a1 + cOF 117)), (2, .int a2), (3, .int a3)] dX1_breakItems_11 (by decide) rfl ?_
  refine gc_aloadn C 1 0 dX1_breakItems_13 rfl rfl ?_
  obtain ⟨g3, h⟩ := h
  refine gc_getE C BX1 66 2 (by decide) rfl fe_66 vf_X1_15 rfl g3 dX1_breakItems_14 ?_
  refine gc_iload C 0 dX1_breakItems_17 rfl ?_
  refine gc_iconst C 0 dX1_breakItems_19 (by decide) ?_
  obtain ⟨g4, h⟩ := h
  refine gc_iast C (ci := 4) (k0 := 2) 66 (by decide) (by decide) (by decide) rfl ft_66 (by decide) g3 g4 dX1_breakItems_20 ?_
  refine gc_nameS (fun t5 et5 => ?_)
  have h := h t5 et5
  have lt5 : kdLe t t5 := kdLe.eq (by rw [et5]; rfl)
  refine gc_iload C 0 dX1_breakItems_21 rfl ?_
  refine gc_iconst C 1 dX1_breakItems_23 (by decide) ?_
  refine gc_isub C dX1_breakItems_24 ?_
  refine gc_nameI (fun x6 ex6 => ?_)
  have h := h x6 ex6
  refine gc_istore C [(5, .int x6), (4, .int x2), (0, .ref a0), (1, .ref (a1 + cOF 117)), (2, .int a2), (3, .int a3)] dX1_breakItems_25 (by decide) rfl ?_
  refine gc_sub [2, 3, 5, 1, 0] rfl ?_
  obtain ⟨n27, h⟩ := h
  have k27 : ∀ (n27 : Nat) (z27 : Int32 × CS), kdLe t5 z27.2 → lp (w_X1_breakItems_L27 B a0 a1 a3 Q X x2) n27 z27 → GC p l e (rmC 2 B t) s m args below meth c 6 D K E0 B A0 (gc_Q below D K E0 A0 (qV Q) X args s t (rmC 2 B t)) z27.2 27 [(0, .ref a0), (1, .ref (a1 + cOF 117)), (3, .int a3), (4, .int x2), (5, .int z27.1)] [] := by
    intro n27
    induction n27 with
    | zero => intro z27 lz27 h; exact h.elim
    | succ n27 ih27 =>
      intro z27 lz27 h
      have h : w_X1_breakItems_L27 B a0 a1 a3 Q X x2 (lp (w_X1_breakItems_L27 B a0 a1 a3 Q X x2) n27) z27 := h
      unfold w_X1_breakItems_L27 at h
      refine gc_iload C 4 dX1_breakItems_27 rfl ?_
      refine gc_if_lt C 48 dX1_breakItems_29 (by decide) (fun c29_1 => ?_) (fun c29_1 => ?_)
      · have h := h.1 c29_1
        refine gc_aloadn C 0 0 dX1_breakItems_48 rfl rfl ?_
        refine gc_iconst C 0 dX1_breakItems_49 (by decide) ?_
        refine gc_putI C BX1 65 1 (by decide) rfl .int ft_65 vf_X1_31 rfl rfl (by decide +kernel) rfl rfl (isC_of (kdLe.k (kdLe.tr lt5 lz27) g3 (by decide) (by decide)) (by decide)) dX1_breakItems_50 ?_
        refine gc_nameS (fun t7 et7 => ?_)
        have h := h t7 et7
        have lt7 : kdLe z27.2 t7 := kdLe.eq (by rw [et7]; rfl)
        refine gc_iconst C 0 dX1_breakItems_53 (by decide) ?_
        refine gc_istore C [(5, .int 0), (0, .ref a0), (1, .ref (a1 + cOF 117)), (3, .int a3), (4, .int x2)] dX1_breakItems_54 (by decide) rfl ?_
        refine gc_sub [1, 4, 0] rfl ?_
        obtain ⟨n56, h⟩ := h
        have k56 : ∀ (n56 : Nat) (z56 : Int32 × CS), kdLe t7 z56.2 → lp (w_X1_breakItems_L56 a0 Q x2) n56 z56 → GC p l e (rmC 2 B t) s m args below meth c 6 D K E0 B A0 (gc_Q below D K E0 A0 (qV Q) X args s t (rmC 2 B t)) z56.2 56 [(0, .ref a0), (4, .int x2), (5, .int z56.1)] [] := by
          intro n56
          induction n56 with
          | zero => intro z56 lz56 h; exact h.elim
          | succ n56 ih56 =>
            intro z56 lz56 h
            have h : w_X1_breakItems_L56 a0 Q x2 (lp (w_X1_breakItems_L56 a0 Q x2) n56) z56 := h
            unfold w_X1_breakItems_L56 at h
            refine gc_iload C 2 dX1_breakItems_56 rfl ?_
            refine gc_iload C 1 dX1_breakItems_58 rfl ?_
            have kt56 : ((x2 ≤ z56.1) ∨ (24 ≤ (fI z56.2 65 a0))) → GC p l e (rmC 2 B t) s m args below meth c 6 D K E0 B A0 (gc_Q below D K E0 A0 (qV Q) X args s t (rmC 2 B t)) z56.2 105 [(0, .ref a0), (4, .int x2), (5, .int z56.1)] [] := by
              intro hc
              have h := h.1 hc
              exact gc_vret C E (kdLe.tr lt5 (kdLe.tr lz27 (kdLe.tr lt7 lz56))) dX1_breakItems_105 ⟨rfl, h⟩
            have kf56 : ¬ ((x2 ≤ z56.1) ∨ (24 ≤ (fI z56.2 65 a0))) → GC p l e (rmC 2 B t) s m args below meth c 6 D K E0 B A0 (gc_Q below D K E0 A0 (qV Q) X args s t (rmC 2 B t)) z56.2 72 [(0, .ref a0), (4, .int x2), (5, .int z56.1)] [] := by
              intro hc
              have h := h.2 hc
              refine gc_aloadn C 0 0 dX1_breakItems_72 rfl rfl ?_
              refine gc_getE C BX1 64 0 (by decide) rfl fe_64 vf_X1_9 rfl (kdLe.k (kdLe.tr lt5 (kdLe.tr lz27 (kdLe.tr lt7 lz56))) g3 (by decide) (by decide)) dX1_breakItems_73 ?_
              refine gc_aloadn C 0 0 dX1_breakItems_76 rfl rfl ?_
              refine gc_getI C BX1 65 1 (by decide) rfl ft_65 vf_X1_31 rfl (isC_of (kdLe.k (kdLe.tr lt5 (kdLe.tr lz27 (kdLe.tr lt7 lz56))) g3 (by decide) (by decide)) (by decide)) dX1_breakItems_77 ?_
              refine gc_iload C 2 dX1_breakItems_80 rfl ?_
              obtain ⟨g8, h⟩ := h
              refine gc_iast C (ci := 4) (k0 := 0) 64 (by decide) (by decide) (by decide) rfl ft_64 (by decide) (kdLe.k (kdLe.tr lt5 (kdLe.tr lz27 (kdLe.tr lt7 lz56))) g3 (by decide) (by decide)) g8 dX1_breakItems_82 ?_
              refine gc_nameS (fun t9 et9 => ?_)
              have h := h t9 et9
              have lt9 : kdLe z56.2 t9 := kdLe.eq (by rw [et9]; rfl)
              refine gc_aloadn C 0 0 dX1_breakItems_83 rfl rfl ?_
              refine gc_dup C dX1_breakItems_84 rfl ?_
              refine gc_getI C BX1 65 1 (by decide) rfl ft_65 vf_X1_31 rfl (isC_of (kdLe.k (kdLe.tr lt5 (kdLe.tr lz27 (kdLe.tr lt7 (kdLe.tr lz56 lt9)))) g3 (by decide) (by decide)) (by decide)) dX1_breakItems_85 ?_
              refine gc_iconst C 1 dX1_breakItems_88 (by decide) ?_
              refine gc_iadd C dX1_breakItems_89 ?_
              refine gc_putI C BX1 65 1 (by decide) rfl .int ft_65 vf_X1_31 rfl rfl (by decide +kernel) rfl rfl (isC_of (kdLe.k (kdLe.tr lt5 (kdLe.tr lz27 (kdLe.tr lt7 (kdLe.tr lz56 lt9)))) g3 (by decide) (by decide)) (by decide)) dX1_breakItems_90 ?_
              refine gc_nameS (fun t10 et10 => ?_)
              have h := h t10 et10
              have lt10 : kdLe t9 t10 := kdLe.eq (by rw [et10]; rfl)
              refine gc_aloadn C 0 0 dX1_breakItems_93 rfl rfl ?_
              refine gc_getE C BX1 67 3 (by decide) rfl fe_67 vf_X1_18 rfl (kdLe.k (kdLe.tr lt5 (kdLe.tr lz27 (kdLe.tr lt7 (kdLe.tr lz56 (kdLe.tr lt9 lt10))))) g3 (by decide) (by decide)) dX1_breakItems_94 ?_
              refine gc_iload C 2 dX1_breakItems_97 rfl ?_
              obtain ⟨g11, h⟩ := h
              refine gc_iald C (ci := 4) (k0 := 3) 67 (by decide) (by decide) (by decide) rfl ft_67 (by decide) (kdLe.k (kdLe.tr lt5 (kdLe.tr lz27 (kdLe.tr lt7 (kdLe.tr lz56 (kdLe.tr lt9 lt10))))) g3 (by decide) (by decide)) g11 dX1_breakItems_99 ?_
              refine gc_nameI (fun x12 ex12 => ?_)
              have h := h x12 ex12
              refine gc_istore C [(5, .int x12), (0, .ref a0), (4, .int x2)] dX1_breakItems_100 (by decide) rfl ?_
              refine gc_goto C 56 dX1_breakItems_102 (by decide) ?_
              refine gc_sub [1, 2, 0] rfl ?_
              have h9 := ih56 (x12, t10) (kdLe.tr lz56 (kdLe.tr lt9 lt10)) h
              exact h9
            refine gc_icmp_ge C 105 dX1_breakItems_60 (by decide) (fun c60_2 => ?_) (fun c60_2 => ?_)
            · exact kt56 (Or.inl c60_2)
            · refine gc_aloadn C 0 0 dX1_breakItems_63 rfl rfl ?_
              refine gc_getI C BX1 65 1 (by decide) rfl ft_65 vf_X1_31 rfl (isC_of (kdLe.k (kdLe.tr lt5 (kdLe.tr lz27 (kdLe.tr lt7 lz56))) g3 (by decide) (by decide)) (by decide)) dX1_breakItems_64 ?_
              refine gc_bipush C 24 dX1_breakItems_67 (by decide) ?_
              refine gc_icmp_ge C 105 dX1_breakItems_69 (by decide) (fun c69_3 => ?_) (fun c69_3 => ?_)
              · exact kt56 (Or.inr c69_3)
              · exact kf56 (fun q0 => Or.elim q0 c60_2 c69_3)
        exact k56 n56 (0, t7) (kdLe.rf _) h
      · have h := h.2 c29_1
        refine gc_aloadn C 0 0 dX1_breakItems_32 rfl rfl ?_
        refine gc_iload C 4 dX1_breakItems_33 rfl ?_
        refine gc_aloadn C 1 1 dX1_breakItems_35 rfl rfl ?_
        refine gc_iload C 3 dX1_breakItems_36 rfl ?_
        refine gc_iloadn C 2 3 dX1_breakItems_38 rfl rfl ?_
        refine gc_callV C BX1 (y := yX1_weighLinesFrom) (as := [.int z27.1, .ref (a1 + cOF 117), .int x2, .int a3]) rfl (by decide) (by decide) (c_X1_weighLinesFrom l D K E0 B A0 a0 z27.1 a1 x2 a3 z27.2 _ X h) hk_X1_weighLinesFrom rfl vl_X1_27 kc_X1_weighLinesFrom (isC_of (kdLe.k (kdLe.tr lt5 lz27) g3 (by decide) (by decide)) (by decide)) dX1_breakItems_39 (Nat.le_of_ble_eq_true rfl) (fun _ _ h => h) (qkV (fun t13 h lt13 => ?_))
        refine gc_iinc C 4 (z27.1 + (-1)) [(5, .int (z27.1 + (-1))), (0, .ref a0), (1, .ref (a1 + cOF 117)), (3, .int a3), (4, .int x2)] dX1_breakItems_42 rfl rfl (by decide) rfl ?_
        refine gc_goto C 27 dX1_breakItems_45 (by decide) ?_
        refine gc_sub [1, 2, 3, 4, 0] rfl ?_
        have h9 := ih27 ((z27.1 + (-1)), t13) (kdLe.tr lz27 lt13) h
        exact h9
  exact k27 n27 (x6, t5) (kdLe.rf _) h
def v_X4_firstBarOfLine (a0 : Nat) (a1 : Int32) (t : CS) : Int32 := (fA t 114 a0 (Int32.toNatClampNeg (fA t 64 (oG (fR t 119 a0)) (Int32.toNatClampNeg a1))))
def d_X4_firstBarOfLine (a0 : Nat) (a1 : Int32) (t : CS) : Prop := (kdC t a0 = 7) ∧ ((fR t 119 a0) ≠ none) ∧ (kdC t (oG (fR t 119 a0)) = 4) ∧ (vp_in a1 (cLN 64)) ∧ (vp_in (fA t 64 (oG (fR t 119 a0)) (Int32.toNatClampNeg a1)) (cLN 114))
set_option maxRecDepth 20000 in
theorem c_X4_firstBarOfLine (l : Launch) (D : va_G) (K : Nat → ClassId) (E0 : Nat) (B : Nat × Nat) (A0 : Nat → Prop) (a0 : Nat) (a1 : Int32) (t : CS) (h : d_X4_firstBarOfLine a0 a1 t) : MetC l yX4_firstBarOfLine cX4_firstBarOfLine 2 (some .int) 0 [.ref a0, .int a1] (qI (fun r t' => (v_X4_firstBarOfLine a0 a1 t) = r ∧ t = t')) (fun _ _ => False) D K E0 B A0 t := by
  obtain ⟨u1, u2, u3, u4, u5⟩ := h
  refine gc_start (by decide) rfl (Nat.le_of_ble_eq_true rfl) (fun p e s m args below meth c C E => ?_)
  refine gc_aloadn C 0 0 dX4_firstBarOfLine_0 rfl rfl ?_
  refine gc_getE C BX4 114 2 (by decide) rfl fe_114 vf_X4_15 rfl u1 dX4_firstBarOfLine_1 ?_
  refine gc_aloadn C 0 0 dX4_firstBarOfLine_4 rfl rfl ?_
  refine gc_getR C BX4 119 7 (by decide) rfl ft_119 vf_X4_30 rfl (isC_of u1 (by decide)) (oG (fR t 119 a0)) (oG_some u2) dX4_firstBarOfLine_5 ?_
  refine gc_getE C BX1 64 0 (by decide) rfl fe_64 vf_X4_100 rfl u3 dX4_firstBarOfLine_8 ?_
  refine gc_iloadn C 1 1 dX4_firstBarOfLine_11 rfl rfl ?_
  refine gc_iald C (ci := 4) (k0 := 0) 64 (by decide) (by decide) (by decide) rfl ft_64 (by decide) u3 u4 dX4_firstBarOfLine_12 ?_
  refine gc_iald C (ci := 7) (k0 := 2) 114 (by decide) (by decide) (by decide) rfl ft_114 (by decide) u1 u5 dX4_firstBarOfLine_13 ?_
  exact gc_iret C E (kdLe.rf _) dX4_firstBarOfLine_14 ⟨_, rfl, (rfl), rfl⟩
def w_X6_firstTimeOf_L2 (a0 : Nat) (a1 : Int32) (t : CS) (Q : Int32 → CS → Prop) (K2 : Int32 → Prop) (z2 : Int32) : Prop := (kdC t a0 = 9) ∧ (((fI t 146 a0) ≤ z2) → Q (fI t 147 a0) t) ∧ (¬ ((fI t 146 a0) ≤ z2) → (vp_in z2 (cLN 144)) ∧ (((fA t 144 a0 (Int32.toNatClampNeg z2)) = a1) → (vp_in z2 (cLN 145)) ∧ Q (fA t 145 a0 (Int32.toNatClampNeg z2)) t) ∧ (¬ ((fA t 144 a0 (Int32.toNatClampNeg z2)) = a1) → K2 (z2 + 1)))
def w_X6_firstTimeOf (B : Nat × Nat) (a0 : Nat) (a1 : Int32) (t : CS) (Q : Int32 → CS → Prop) (X : String → CS → Prop) : Prop := ∃ n, lp (w_X6_firstTimeOf_L2 a0 a1 t Q) n 0
set_option maxRecDepth 20000 in
set_option maxHeartbeats 2000000 in
theorem c_X6_firstTimeOf (l : Launch) (D : va_G) (K : Nat → ClassId) (E0 : Nat) (B : Nat × Nat) (A0 : Nat → Prop) (a0 : Nat) (a1 : Int32) (t : CS) (Q : Int32 → CS → Prop) (X : String → CS → Prop) (h : w_X6_firstTimeOf B a0 a1 t Q X) : MetC l yX6_firstTimeOf cX6_firstTimeOf 3 (some .int) 0 [.ref a0, .int a1] (qI Q) X D K E0 B A0 t := by
  unfold w_X6_firstTimeOf at h
  refine gc_start (by decide) rfl (Nat.le_of_ble_eq_true rfl) (fun p e s m args below meth c C E => ?_)
  refine gc_iconst C 0 dX6_firstTimeOf_0 (by decide) ?_
  refine gc_istoren C 2 [(2, .int 0), (0, .ref a0), (1, .int a1)] dX6_firstTimeOf_1 rfl (by decide) rfl ?_
  refine gc_sub [1, 2, 0] rfl ?_
  obtain ⟨n2, h⟩ := h
  have k2 : ∀ (n2 : Nat) (z2 : Int32), lp (w_X6_firstTimeOf_L2 a0 a1 t Q) n2 z2 → GC p l e (rmC 0 B t) s m args below meth c 3 D K E0 B A0 (gc_Q below D K E0 A0 (qI Q) X args s t (rmC 0 B t)) t 2 [(0, .ref a0), (1, .int a1), (2, .int z2)] [] := by
    intro n2
    induction n2 with
    | zero => intro z2 h; exact h.elim
    | succ n2 ih2 =>
      intro z2 h
      have h : w_X6_firstTimeOf_L2 a0 a1 t Q (lp (w_X6_firstTimeOf_L2 a0 a1 t Q) n2) z2 := h
      unfold w_X6_firstTimeOf_L2 at h
      refine gc_iloadn C 2 2 dX6_firstTimeOf_2 rfl rfl ?_
      refine gc_aloadn C 0 0 dX6_firstTimeOf_3 rfl rfl ?_
      obtain ⟨g1, h⟩ := h
      refine gc_getI C BX6 146 2 (by decide) rfl ft_146 vf_X6_54 rfl (isC_of g1 (by decide)) dX6_firstTimeOf_4 ?_
      refine gc_icmp_ge C 33 dX6_firstTimeOf_7 (by decide) (fun c7_1 => ?_) (fun c7_1 => ?_)
      · have h := h.1 c7_1
        refine gc_aloadn C 0 0 dX6_firstTimeOf_33 rfl rfl ?_
        refine gc_getI C BX6 147 3 (by decide) rfl ft_147 vf_X6_61 rfl (isC_of g1 (by decide)) dX6_firstTimeOf_34 ?_
        exact gc_iret C E (kdLe.rf _) dX6_firstTimeOf_37 ⟨_, rfl, h⟩
      · have h := h.2 c7_1
        refine gc_aloadn C 0 0 dX6_firstTimeOf_10 rfl rfl ?_
        refine gc_getE C BX6 144 0 (by decide) rfl fe_144 vf_X6_11 rfl g1 dX6_firstTimeOf_11 ?_
        refine gc_iloadn C 2 2 dX6_firstTimeOf_14 rfl rfl ?_
        obtain ⟨g2, h⟩ := h
        refine gc_iald C (ci := 9) (k0 := 0) 144 (by decide) (by decide) (by decide) rfl ft_144 (by decide) g1 g2 dX6_firstTimeOf_15 ?_
        refine gc_iloadn C 1 1 dX6_firstTimeOf_16 rfl rfl ?_
        refine gc_icmp_ne C 27 dX6_firstTimeOf_17 (by decide) (fun c17_2 => ?_) (fun c17_2 => ?_)
        · have h := h.2 c17_2
          refine gc_iinc C 2 (z2 + 1) [(2, .int (z2 + 1)), (0, .ref a0), (1, .int a1)] dX6_firstTimeOf_27 rfl rfl (by decide) rfl ?_
          refine gc_goto C 2 dX6_firstTimeOf_30 (by decide) ?_
          refine gc_sub [1, 2, 0] rfl ?_
          have h9 := ih2 (z2 + 1) h
          exact h9
        · have h := h.1 c17_2
          refine gc_aloadn C 0 0 dX6_firstTimeOf_20 rfl rfl ?_
          refine gc_getE C BX6 145 1 (by decide) rfl fe_145 vf_X6_15 rfl g1 dX6_firstTimeOf_21 ?_
          refine gc_iloadn C 2 2 dX6_firstTimeOf_24 rfl rfl ?_
          obtain ⟨g3, h⟩ := h
          refine gc_iald C (ci := 9) (k0 := 1) 145 (by decide) (by decide) (by decide) rfl ft_145 (by decide) g1 g3 dX6_firstTimeOf_25 ?_
          exact gc_iret C E (kdLe.rf _) dX6_firstTimeOf_26 ⟨_, rfl, h⟩
  exact k2 n2 0 h
def w_X6_restAt_L5 (a0 : Nat) (a1 : Int32) (a2 : Int32) (t : CS) (Q : Int32 → CS → Prop) (K5 : (Int32 × Int32) → Prop) (z5 : Int32 × Int32) : Prop := (kdC t a0 = 9) ∧ (((fI t 149 a0) ≤ z5.2) → Q ((fI t 147 a0) - z5.1) t) ∧ (¬ ((fI t 149 a0) ≤ z5.2) → (lIn t 148 a0 z5.2) ∧ (kdC t (lG t 148 a0 z5.2) = 13) ∧ ∃ J71 : Int32 → Prop, (∀ x4 : Int32, J71 x4 → (K5 (x4, (z5.2 + 1)))) ∧ ((((fI t 208 (lG t 148 a0 z5.2)) = a1) → (((fI t 209 (lG t 148 a0 z5.2)) < a2) → (((fI t 210 (lG t 148 a0 z5.2)) ≤ a2) → ∀ x5 : Int32, x5 = (fI t 210 (lG t 148 a0 z5.2)) → J71 x5) ∧ (¬ ((fI t 210 (lG t 148 a0 z5.2)) ≤ a2) → Q 0 t)) ∧ (¬ ((fI t 209 (lG t 148 a0 z5.2)) < a2) → Q ((fI t 209 (lG t 148 a0 z5.2)) - z5.1) t)) ∧ (¬ ((fI t 208 (lG t 148 a0 z5.2)) = a1) → J71 z5.1)))
def w_X6_restAt (B : Nat × Nat) (a0 : Nat) (a1 : Int32) (a2 : Int32) (t : CS) (Q : Int32 → CS → Prop) (X : String → CS → Prop) : Prop := ∃ n, lp (w_X6_restAt_L5 a0 a1 a2 t Q) n (0, 0)
set_option maxRecDepth 20000 in
set_option maxHeartbeats 2000000 in
theorem c_X6_restAt (l : Launch) (D : va_G) (K : Nat → ClassId) (E0 : Nat) (B : Nat × Nat) (A0 : Nat → Prop) (a0 : Nat) (a1 : Int32) (a2 : Int32) (t : CS) (Q : Int32 → CS → Prop) (X : String → CS → Prop) (h : w_X6_restAt B a0 a1 a2 t Q X) : MetC l yX6_restAt cX6_restAt 6 (some .int) 3 [.ref a0, .int a1, .int a2] (qI Q) X D K E0 B A0 t := by
  unfold w_X6_restAt at h
  refine gc_start (by decide) rfl (Nat.le_of_ble_eq_true rfl) (fun p e s m args below meth c C E => ?_)
  refine gc_iconst C 0 dX6_restAt_0 (by decide) ?_
  refine gc_istoren C 3 [(3, .int 0), (0, .ref a0), (1, .int a1), (2, .int a2)] dX6_restAt_1 rfl (by decide) rfl ?_
  refine gc_iconst C 0 dX6_restAt_2 (by decide) ?_
  refine gc_istore C [(4, .int 0), (3, .int 0), (0, .ref a0), (1, .int a1), (2, .int a2)] dX6_restAt_3 (by decide) rfl ?_
  refine gc_sub [2, 3, 4, 1, 0] rfl ?_
  obtain ⟨n5, h⟩ := h
  have k5 : ∀ (n5 : Nat) (z5 : Int32 × Int32), lp (w_X6_restAt_L5 a0 a1 a2 t Q) n5 z5 → GC p l e (rmC 3 B t) s m args below meth c 6 D K E0 B A0 (gc_Q below D K E0 A0 (qI Q) X args s t (rmC 3 B t)) t 5 [(0, .ref a0), (1, .int a1), (2, .int a2), (3, .int z5.1), (4, .int z5.2)] [] := by
    intro n5
    induction n5 with
    | zero => intro z5 h; exact h.elim
    | succ n5 ih5 =>
      intro z5 h
      have h : w_X6_restAt_L5 a0 a1 a2 t Q (lp (w_X6_restAt_L5 a0 a1 a2 t Q) n5) z5 := h
      unfold w_X6_restAt_L5 at h
      refine gc_iload C 4 dX6_restAt_5 rfl ?_
      refine gc_aloadn C 0 0 dX6_restAt_7 rfl rfl ?_
      obtain ⟨g1, h⟩ := h
      refine gc_getI C BX6 149 5 (by decide) rfl ft_149 vf_X6_51 rfl (isC_of g1 (by decide)) dX6_restAt_8 ?_
      refine gc_icmp_ge C 77 dX6_restAt_11 (by decide) (fun c11_1 => ?_) (fun c11_1 => ?_)
      · have h := h.1 c11_1
        refine gc_aloadn C 0 0 dX6_restAt_77 rfl rfl ?_
        refine gc_getI C BX6 147 3 (by decide) rfl ft_147 vf_X6_61 rfl (isC_of g1 (by decide)) dX6_restAt_78 ?_
        refine gc_iloadn C 3 3 dX6_restAt_81 rfl rfl ?_
        refine gc_isub C dX6_restAt_82 ?_
        exact gc_iret C E (kdLe.rf _) dX6_restAt_83 ⟨_, rfl, h⟩
      · have h := h.2 c11_1
        refine gc_aloadn C 0 0 dX6_restAt_14 rfl rfl ?_
        refine gc_getE C BX6 148 4 (by decide) rfl fe_148 vf_X6_21 rfl g1 dX6_restAt_15 ?_
        refine gc_iload C 4 dX6_restAt_18 rfl ?_
        obtain ⟨g2, h⟩ := h
        refine gc_lsGet C (ci := 9) (k0 := 4) 148 (by decide) (by decide) (by decide) rfl ft_148 rfl (by decide) g1 g2 vj_X6_78 dX6_restAt_20 (Nat.le_of_ble_eq_true rfl) ?_
        obtain ⟨g3, h⟩ := h
        refine gc_cast C BX10 v_i146 (isC_of g3 (by decide)) dX6_restAt_23 ?_
        refine gc_astore C [(5, .ref (lG t 148 a0 z5.2)), (0, .ref a0), (1, .int a1), (2, .int a2), (3, .int z5.1), (4, .int z5.2)] dX6_restAt_26 (by decide) rfl ?_
        refine gc_aload C 0 dX6_restAt_28 rfl ?_
        refine gc_getI C BX10 208 0 (by decide) rfl ft_208 vf_X6_161 rfl (isC_of g3 (by decide)) dX6_restAt_30 ?_
        refine gc_iloadn C 2 1 dX6_restAt_33 rfl rfl ?_
        obtain ⟨J71, hJ71, h⟩ := h
        have k71 : ∀ x4 : Int32, J71 x4 → GC p l e (rmC 3 B t) s m args below meth c 6 D K E0 B A0 (gc_Q below D K E0 A0 (qI Q) X args s t (rmC 3 B t)) t 71 [(0, .ref a0), (1, .int a1), (2, .int a2), (3, .int x4), (4, .int z5.2)] [] := by
          intro x4 h
          have h := hJ71 x4 h
          refine gc_iinc C 4 (z5.2 + 1) [(4, .int (z5.2 + 1)), (0, .ref a0), (1, .int a1), (2, .int a2), (3, .int x4)] dX6_restAt_71 rfl rfl (by decide) rfl ?_
          refine gc_goto C 5 dX6_restAt_74 (by decide) ?_
          refine gc_sub [1, 2, 3, 4, 0] rfl ?_
          have h9 := ih5 (x4, (z5.2 + 1)) h
          exact h9
        refine gc_icmp_ne C 71 dX6_restAt_34 (by decide) (fun c34_2 => ?_) (fun c34_2 => ?_)
        · have h := h.2 c34_2
          refine gc_sub [1, 2, 3, 4, 5] rfl ?_
          exact k71 z5.1 h
        · have h := h.1 c34_2
          refine gc_aload C 0 dX6_restAt_37 rfl ?_
          refine gc_getI C BX10 209 1 (by decide) rfl ft_209 vf_X6_164 rfl (isC_of g3 (by decide)) dX6_restAt_39 ?_
          refine gc_iloadn C 3 2 dX6_restAt_42 rfl rfl ?_
          refine gc_icmp_lt C 54 dX6_restAt_43 (by decide) (fun c43_3 => ?_) (fun c43_3 => ?_)
          · have h := h.1 c43_3
            refine gc_aload C 0 dX6_restAt_54 rfl ?_
            refine gc_getI C BX10 210 2 (by decide) rfl ft_210 vf_X6_151 rfl (isC_of g3 (by decide)) dX6_restAt_56 ?_
            refine gc_iloadn C 3 2 dX6_restAt_59 rfl rfl ?_
            refine gc_icmp_le C 65 dX6_restAt_60 (by decide) (fun c60_4 => ?_) (fun c60_4 => ?_)
            · have h := h.1 c60_4
              refine gc_aload C 0 dX6_restAt_65 rfl ?_
              refine gc_getI C BX10 210 2 (by decide) rfl ft_210 vf_X6_151 rfl (isC_of g3 (by decide)) dX6_restAt_67 ?_
              refine gc_nameI (fun x5 ex5 => ?_)
              have h := h x5 ex5
              refine gc_istoren C 3 [(3, .int x5), (5, .ref (lG t 148 a0 z5.2)), (0, .ref a0), (1, .int a1), (2, .int a2), (4, .int z5.2)] dX6_restAt_70 rfl (by decide) rfl ?_
              refine gc_sub [2, 3, 4, 0, 5] rfl ?_
              exact k71 x5 h
            · have h := h.2 c60_4
              refine gc_iconst C 0 dX6_restAt_63 (by decide) ?_
              exact gc_iret C E (kdLe.rf _) dX6_restAt_64 ⟨_, rfl, h⟩
          · have h := h.2 c43_3
            refine gc_aload C 0 dX6_restAt_46 rfl ?_
            refine gc_getI C BX10 209 1 (by decide) rfl ft_209 vf_X6_164 rfl (isC_of g3 (by decide)) dX6_restAt_48 ?_
            refine gc_iloadn C 4 3 dX6_restAt_51 rfl rfl ?_
            refine gc_isub C dX6_restAt_52 ?_
            exact gc_iret C E (kdLe.rf _) dX6_restAt_53 ⟨_, rfl, h⟩
  exact k5 n5 (0, 0) h
def v_X5_goesOnBehind (a0 : Nat) (a1 : Int32) (a2 : Int32) (t : CS) : Int32 := (if ((fI t 133 a0) = 0) ∧ (((fI t 128 a0) = a1) ∧ ((¬ (a2 < (fI t 129 a0))) ∧ (¬ ((fI t 130 a0) ≤ a2)))) then 1 else 0)
def d_X5_goesOnBehind (a0 : Nat) (a1 : Int32) (a2 : Int32) (t : CS) : Prop := (kdC t a0 = 8)
theorem vb_X5_goesOnBehind {a0 : Nat} {a1 : Int32} {a2 : Int32} {t : CS} : gb (v_X5_goesOnBehind a0 a1 a2 t) := by unfold v_X5_goesOnBehind; split <;> first | exact Or.inr rfl | exact Or.inl rfl
set_option maxRecDepth 20000 in
theorem c_X5_goesOnBehind (l : Launch) (D : va_G) (K : Nat → ClassId) (E0 : Nat) (B : Nat × Nat) (A0 : Nat → Prop) (a0 : Nat) (a1 : Int32) (a2 : Int32) (t : CS) (h : d_X5_goesOnBehind a0 a1 a2 t) : MetC l yX5_goesOnBehind cX5_goesOnBehind 3 (some .boolean) 0 [.ref a0, .int a1, .int a2] (qI (fun r t' => (v_X5_goesOnBehind a0 a1 a2 t) = r ∧ t = t')) (fun _ _ => False) D K E0 B A0 t := by
  have u1 := h
  refine gc_start (by decide) rfl (Nat.le_of_ble_eq_true rfl) (fun p e s m args below meth c C E => ?_)
  refine gc_aloadn C 0 0 dX5_goesOnBehind_0 rfl rfl ?_
  refine gc_getI C BX5 133 5 (by decide) rfl ft_133 vf_X5_26 rfl (isC_of u1 (by decide)) dX5_goesOnBehind_1 ?_
  refine gc_if_ne C 35 dX5_goesOnBehind_4 (by decide) (fun c4_1 => ?_) (fun c4_1 => ?_)
  · refine gc_iconst C 0 dX5_goesOnBehind_35 (by decide) ?_
    exact gc_zret C E (Or.inl rfl) (kdLe.rf _) dX5_goesOnBehind_36 ⟨_, rfl, (Eq.symm ((if_neg (fun q0 => c4_1 q0.1)).symm)), rfl⟩
  · refine gc_aloadn C 0 0 dX5_goesOnBehind_7 rfl rfl ?_
    refine gc_getI C BX5 128 0 (by decide) rfl ft_128 vf_X5_7 rfl (isC_of u1 (by decide)) dX5_goesOnBehind_8 ?_
    refine gc_iloadn C 1 1 dX5_goesOnBehind_11 rfl rfl ?_
    refine gc_icmp_ne C 35 dX5_goesOnBehind_12 (by decide) (fun c12_2 => ?_) (fun c12_2 => ?_)
    · refine gc_iconst C 0 dX5_goesOnBehind_35 (by decide) ?_
      exact gc_zret C E (Or.inl rfl) (kdLe.rf _) dX5_goesOnBehind_36 ⟨_, rfl, (Eq.symm ((if_neg (fun q0 => (fun q1 => c12_2 q1.1) q0.2)).symm)), rfl⟩
    · refine gc_aloadn C 0 0 dX5_goesOnBehind_15 rfl rfl ?_
      refine gc_getI C BX5 129 1 (by decide) rfl ft_129 vf_X5_13 rfl (isC_of u1 (by decide)) dX5_goesOnBehind_16 ?_
      refine gc_iloadn C 2 2 dX5_goesOnBehind_19 rfl rfl ?_
      refine gc_icmp_gt C 35 dX5_goesOnBehind_20 (by decide) (fun c20_3 => ?_) (fun c20_3 => ?_)
      · refine gc_iconst C 0 dX5_goesOnBehind_35 (by decide) ?_
        exact gc_zret C E (Or.inl rfl) (kdLe.rf _) dX5_goesOnBehind_36 ⟨_, rfl, (Eq.symm ((if_neg (fun q0 => (fun q1 => (fun q2 => q2.1 c20_3) q1.2) q0.2)).symm)), rfl⟩
      · refine gc_aloadn C 0 0 dX5_goesOnBehind_23 rfl rfl ?_
        refine gc_getI C BX5 130 2 (by decide) rfl ft_130 vf_X5_20 rfl (isC_of u1 (by decide)) dX5_goesOnBehind_24 ?_
        refine gc_iloadn C 2 2 dX5_goesOnBehind_27 rfl rfl ?_
        refine gc_icmp_le C 35 dX5_goesOnBehind_28 (by decide) (fun c28_4 => ?_) (fun c28_4 => ?_)
        · refine gc_iconst C 0 dX5_goesOnBehind_35 (by decide) ?_
          exact gc_zret C E (Or.inl rfl) (kdLe.rf _) dX5_goesOnBehind_36 ⟨_, rfl, (Eq.symm ((if_neg (fun q0 => (fun q1 => (fun q2 => (fun q3 => q3 c28_4) q2.2) q1.2) q0.2)).symm)), rfl⟩
        · refine gc_iconst C 1 dX5_goesOnBehind_31 (by decide) ?_
          refine gc_goto C 36 dX5_goesOnBehind_32 (by decide) ?_
          exact gc_zret C E (Or.inr rfl) (kdLe.rf _) dX5_goesOnBehind_36 ⟨_, rfl, (Eq.symm ((if_pos ⟨c4_1, ⟨c12_2, ⟨c20_3, c28_4⟩⟩⟩).symm)), rfl⟩
def w_X9_isTurnForbidden_L16 (a0 : Nat) (a1 : Int32) (a2 : Int32) (t : CS) (Q : Int32 → CS → Prop) (K16 : Int32 → Prop) (z16 : Int32) : Prop := (((nI (fL t 193 a0).length) ≤ z16) → Q 0 t) ∧ (¬ ((nI (fL t 193 a0).length) ≤ z16) → (lIn t 193 a0 z16) ∧ (kdC t (lG t 193 a0 z16) = 8) ∧ (d_X5_goesOnBehind (lG t 193 a0 z16) a1 a2 t) ∧ (((v_X5_goesOnBehind (lG t 193 a0 z16) a1 a2 t) = 0) → K16 (z16 + 1)) ∧ (¬ ((v_X5_goesOnBehind (lG t 193 a0 z16) a1 a2 t) = 0) → Q 1 t))
def w_X9_isTurnForbidden (B : Nat × Nat) (a0 : Nat) (a1 : Int32) (a2 : Int32) (t : CS) (Q : Int32 → CS → Prop) (X : String → CS → Prop) : Prop := (kdC t a0 = 12) ∧ (d_X9_row a0 a1 a2 t) ∧ (kdC t (v_X9_row a0 a1 a2 t) = 11) ∧ (((fI t 178 (v_X9_row a0 a1 a2 t)) = 0) → ∃ n, lp (w_X9_isTurnForbidden_L16 a0 a1 a2 t Q) n 0) ∧ (¬ ((fI t 178 (v_X9_row a0 a1 a2 t)) = 0) → Q 0 t)
set_option maxRecDepth 20000 in
set_option maxHeartbeats 2000000 in
theorem c_X9_isTurnForbidden (l : Launch) (D : va_G) (K : Nat → ClassId) (E0 : Nat) (B : Nat × Nat) (A0 : Nat → Prop) (a0 : Nat) (a1 : Int32) (a2 : Int32) (t : CS) (Q : Int32 → CS → Prop) (X : String → CS → Prop) (h : w_X9_isTurnForbidden B a0 a1 a2 t Q X) : MetC l yX9_isTurnForbidden cX9_isTurnForbidden 4 (some .boolean) 4 [.ref a0, .int a1, .int a2] (qI Q) X D K E0 B A0 t := by
  unfold w_X9_isTurnForbidden at h
  refine gc_start (by decide) rfl (Nat.le_of_ble_eq_true rfl) (fun p e s m args below meth c C E => ?_)
  refine gc_aloadn C 0 0 dX9_isTurnForbidden_0 rfl rfl ?_
  refine gc_iloadn C 1 1 dX9_isTurnForbidden_1 rfl rfl ?_
  refine gc_iloadn C 2 2 dX9_isTurnForbidden_2 rfl rfl ?_
  obtain ⟨g1, h⟩ := h
  obtain ⟨g2, h⟩ := h
  refine gc_callV C BX9 (y := yX9_row) (as := [.int a1, .int a2]) rfl (by decide) (by decide) (c_X9_row l D K E0 B A0 a0 a1 a2 t g2) hk_X9_row rfl vl_X9_66 kc_X9_row (isC_of g1 (by decide)) dX9_isTurnForbidden_3 (Nat.le_of_ble_eq_true rfl) (fun _ _ h => h.elim) (qkRP ?_)
  obtain ⟨g3, h⟩ := h
  refine gc_getI C BX8 178 2 (by decide) rfl ft_178 vf_X9_117 rfl (isC_of g3 (by decide)) dX9_isTurnForbidden_6 ?_
  refine gc_if_eq C 14 dX9_isTurnForbidden_9 (by decide) (fun c9_1 => ?_) (fun c9_1 => ?_)
  · have h := h.1 c9_1
    refine gc_iconst C 0 dX9_isTurnForbidden_14 (by decide) ?_
    refine gc_istoren C 3 [(3, .int 0), (0, .ref a0), (1, .int a1), (2, .int a2)] dX9_isTurnForbidden_15 rfl (by decide) rfl ?_
    refine gc_sub [1, 2, 3, 0] rfl ?_
    obtain ⟨n16, h⟩ := h
    have k16 : ∀ (n16 : Nat) (z16 : Int32), lp (w_X9_isTurnForbidden_L16 a0 a1 a2 t Q) n16 z16 → GC p l e (rmC 4 B t) s m args below meth c 4 D K E0 B A0 (gc_Q below D K E0 A0 (qI Q) X args s t (rmC 4 B t)) t 16 [(0, .ref a0), (1, .int a1), (2, .int a2), (3, .int z16)] [] := by
      intro n16
      induction n16 with
      | zero => intro z16 h; exact h.elim
      | succ n16 ih16 =>
        intro z16 h
        have h : w_X9_isTurnForbidden_L16 a0 a1 a2 t Q (lp (w_X9_isTurnForbidden_L16 a0 a1 a2 t Q) n16) z16 := h
        unfold w_X9_isTurnForbidden_L16 at h
        refine gc_iloadn C 3 3 dX9_isTurnForbidden_16 rfl rfl ?_
        refine gc_aloadn C 0 0 dX9_isTurnForbidden_17 rfl rfl ?_
        refine gc_getE C BX9 193 1 (by decide) rfl fe_193 vf_X9_18 rfl g1 dX9_isTurnForbidden_18 ?_
        refine gc_lsSize C (ci := 12) (k0 := 1) 193 (by decide) (by decide) (by decide) rfl ft_193 rfl (by decide) g1 vj_X9_38 dX9_isTurnForbidden_21 (Nat.le_of_ble_eq_true rfl) ?_
        refine gc_icmp_ge C 54 dX9_isTurnForbidden_24 (by decide) (fun c24_2 => ?_) (fun c24_2 => ?_)
        · have h := h.1 c24_2
          refine gc_iconst C 0 dX9_isTurnForbidden_54 (by decide) ?_
          exact gc_zret C E (Or.inl rfl) (kdLe.rf _) dX9_isTurnForbidden_55 ⟨_, rfl, h⟩
        · have h := h.2 c24_2
          refine gc_aloadn C 0 0 dX9_isTurnForbidden_27 rfl rfl ?_
          refine gc_getE C BX9 193 1 (by decide) rfl fe_193 vf_X9_18 rfl g1 dX9_isTurnForbidden_28 ?_
          refine gc_iloadn C 3 3 dX9_isTurnForbidden_31 rfl rfl ?_
          obtain ⟨g4, h⟩ := h
          refine gc_lsGet C (ci := 12) (k0 := 1) 193 (by decide) (by decide) (by decide) rfl ft_193 rfl (by decide) g1 g4 vj_X9_42 dX9_isTurnForbidden_32 (Nat.le_of_ble_eq_true rfl) ?_
          obtain ⟨g5, h⟩ := h
          refine gc_cast C BX5 v_i231 (isC_of g5 (by decide)) dX9_isTurnForbidden_35 ?_
          refine gc_iloadn C 1 1 dX9_isTurnForbidden_38 rfl rfl ?_
          refine gc_iloadn C 2 2 dX9_isTurnForbidden_39 rfl rfl ?_
          obtain ⟨g6, h⟩ := h
          refine gc_callV C BX5 (y := yX5_goesOnBehind) (as := [.int a1, .int a2]) rfl (by decide) (by decide) (c_X5_goesOnBehind l D K E0 B A0 (lG t 193 a0 z16) a1 a2 t g6) hk_X5_goesOnBehind rfl vl_X9_120 kc_X5_goesOnBehind (isC_of g5 (by decide)) dX9_isTurnForbidden_40 (Nat.le_of_ble_eq_true rfl) (fun _ _ h => h.elim) (qkIP ?_)
          refine gc_if_eq C 48 dX9_isTurnForbidden_43 (by decide) (fun c43_3 => ?_) (fun c43_3 => ?_)
          · have h := h.1 c43_3
            refine gc_iinc C 3 (z16 + 1) [(3, .int (z16 + 1)), (0, .ref a0), (1, .int a1), (2, .int a2)] dX9_isTurnForbidden_48 rfl rfl (by decide) rfl ?_
            refine gc_goto C 16 dX9_isTurnForbidden_51 (by decide) ?_
            refine gc_sub [1, 2, 3, 0] rfl ?_
            have h9 := ih16 (z16 + 1) h
            exact h9
          · have h := h.2 c43_3
            refine gc_iconst C 1 dX9_isTurnForbidden_46 (by decide) ?_
            exact gc_zret C E (Or.inr rfl) (kdLe.rf _) dX9_isTurnForbidden_47 ⟨_, rfl, h⟩
    exact k16 n16 0 h
  · have h := h.2 c9_1
    refine gc_iconst C 0 dX9_isTurnForbidden_12 (by decide) ?_
    exact gc_zret C E (Or.inl rfl) (kdLe.rf _) dX9_isTurnForbidden_13 ⟨_, rfl, h⟩
def v_X3_faultOf (a1 : Int32) (a2 : Int32) : Int32 := (if a1 = 0 then (if a2 = 0 then (0 + 0) else (0 + 500000)) else (if a2 = 0 then (20000 + 0) else (20000 + 500000)))
set_option maxRecDepth 20000 in
theorem c_X3_faultOf (l : Launch) (D : va_G) (K : Nat → ClassId) (E0 : Nat) (B : Nat × Nat) (A0 : Nat → Prop) (a1 : Int32) (a2 : Int32) (t : CS) : MetC l yX3_faultOf cX3_faultOf 2 (some .int) 0 [.int a1, .int a2] (qI (fun r t' => (v_X3_faultOf a1 a2) = r ∧ t = t')) (fun _ _ => False) D K E0 B A0 t := by
  refine gc_start (by decide) rfl (Nat.le_of_ble_eq_true rfl) (fun p e s m args below meth c C E => ?_)
  refine gc_iloadn C 0 0 dX3_faultOf_0 rfl rfl ?_
  refine gc_if_eq C 10 dX3_faultOf_1 (by decide) (fun c1_1 => ?_) (fun c1_1 => ?_)
  · refine gc_iconst C 0 dX3_faultOf_10 (by decide) ?_
    refine gc_iloadn C 1 1 dX3_faultOf_11 rfl rfl ?_
    refine gc_if_eq C 20 dX3_faultOf_12 (by decide) (fun c12_2 => ?_) (fun c12_2 => ?_)
    · refine gc_iconst C 0 dX3_faultOf_20 (by decide) ?_
      refine gc_iadd C dX3_faultOf_21 ?_
      exact gc_iret C E (kdLe.rf _) dX3_faultOf_22 ⟨_, rfl, (Eq.symm (((Eq.trans (if_pos c1_1) (if_pos c12_2))).symm)), rfl⟩
    · refine gc_ldc C 500000 v_i881 dX3_faultOf_15 ?_
      refine gc_goto C 21 dX3_faultOf_17 (by decide) ?_
      refine gc_iadd C dX3_faultOf_21 ?_
      exact gc_iret C E (kdLe.rf _) dX3_faultOf_22 ⟨_, rfl, (Eq.symm (((Eq.trans (if_pos c1_1) (if_neg c12_2))).symm)), rfl⟩
  · refine gc_sipush C 20000 dX3_faultOf_4 (by decide) ?_
    refine gc_goto C 11 dX3_faultOf_7 (by decide) ?_
    refine gc_iloadn C 1 1 dX3_faultOf_11 rfl rfl ?_
    refine gc_if_eq C 20 dX3_faultOf_12 (by decide) (fun c12_3 => ?_) (fun c12_3 => ?_)
    · refine gc_iconst C 0 dX3_faultOf_20 (by decide) ?_
      refine gc_iadd C dX3_faultOf_21 ?_
      exact gc_iret C E (kdLe.rf _) dX3_faultOf_22 ⟨_, rfl, (Eq.symm (((Eq.trans (if_neg c1_1) (if_pos c12_3))).symm)), rfl⟩
    · refine gc_ldc C 500000 v_i881 dX3_faultOf_15 ?_
      refine gc_goto C 21 dX3_faultOf_17 (by decide) ?_
      refine gc_iadd C dX3_faultOf_21 ?_
      exact gc_iret C E (kdLe.rf _) dX3_faultOf_22 ⟨_, rfl, (Eq.symm (((Eq.trans (if_neg c1_1) (if_neg c12_3))).symm)), rfl⟩
def w_X3_tellBreak (B : Nat × Nat) (a0 : Nat) (a1 : Int32) (a2 : Int32) (a3 : Int32) (a4 : Int32) (a5 : Int32) (t : CS) (Q : CS → Prop) (X : String → CS → Prop) : Prop := ∃ J40 : CS → Prop, (∀ t1 : CS, J40 t1 → (Q t1)) ∧ ((((a1 < 0) ∨ (24 ≤ a1)) → J40 t) ∧ (¬ ((a1 < 0) ∨ (24 ≤ a1)) → (kdC t a0 = 6) ∧ (vp_in a1 (cLN 101)) ∧ ∀ t4 : CS, t4 = usA t 101 a0 a1 a2 → (vp_in a1 (cLN 102)) ∧ ∀ t6 : CS, t6 = usA t4 102 a0 a1 a3 → (vp_in a1 (cLN 103)) ∧ ∀ t8 : CS, t8 = usA t6 103 a0 a1 a4 → (vp_in a1 (cLN 104)) ∧ ∀ t10 : CS, t10 = usA t8 104 a0 a1 a5 → J40 t10))
set_option maxRecDepth 20000 in
set_option maxHeartbeats 2000000 in
theorem c_X3_tellBreak (l : Launch) (D : va_G) (K : Nat → ClassId) (E0 : Nat) (B : Nat × Nat) (A0 : Nat → Prop) (a0 : Nat) (a1 : Int32) (a2 : Int32) (a3 : Int32) (a4 : Int32) (a5 : Int32) (t : CS) (Q : CS → Prop) (X : String → CS → Prop) (h : w_X3_tellBreak B a0 a1 a2 a3 a4 a5 t Q X) : MetC l yX3_tellBreak cX3_tellBreak 6 none 0 [.ref a0, .int a1, .int a2, .int a3, .int a4, .int a5] (qV Q) X D K E0 B A0 t := by
  unfold w_X3_tellBreak at h
  refine gc_start (by decide) rfl (Nat.le_of_ble_eq_true rfl) (fun p e s m args below meth c C E => ?_)
  refine gc_iloadn C 1 1 dX3_tellBreak_0 rfl rfl ?_
  obtain ⟨J40, hJ40, h⟩ := h
  have k40 : ∀ t1 : CS, kdLe t t1 → J40 t1 → GC p l e (rmC 0 B t) s m args below meth c 6 D K E0 B A0 (gc_Q below D K E0 A0 (qV Q) X args s t (rmC 0 B t)) t1 40 [] [] := by
    intro t1 lt1 h
    have h := hJ40 t1 h
    exact gc_vret C E lt1 dX3_tellBreak_40 ⟨rfl, h⟩
  have kt0 : ((a1 < 0) ∨ (24 ≤ a1)) → GC p l e (rmC 0 B t) s m args below meth c 6 D K E0 B A0 (gc_Q below D K E0 A0 (qV Q) X args s t (rmC 0 B t)) t 40 [(0, .ref a0), (1, .int a1), (2, .int a2), (3, .int a3), (4, .int a4), (5, .int a5)] [] := by
    intro hc
    have h := h.1 hc
    refine gc_sub [] rfl ?_
    exact k40 t (kdLe.rf _) h
  have kf0 : ¬ ((a1 < 0) ∨ (24 ≤ a1)) → GC p l e (rmC 0 B t) s m args below meth c 6 D K E0 B A0 (gc_Q below D K E0 A0 (qV Q) X args s t (rmC 0 B t)) t 10 [(0, .ref a0), (1, .int a1), (2, .int a2), (3, .int a3), (4, .int a4), (5, .int a5)] [] := by
    intro hc
    have h := h.2 hc
    refine gc_aloadn C 0 0 dX3_tellBreak_10 rfl rfl ?_
    obtain ⟨g2, h⟩ := h
    refine gc_getE C BX3 101 5 (by decide) rfl fe_101 vf_X3_21 rfl g2 dX3_tellBreak_11 ?_
    refine gc_iloadn C 1 1 dX3_tellBreak_14 rfl rfl ?_
    refine gc_iloadn C 2 2 dX3_tellBreak_15 rfl rfl ?_
    obtain ⟨g3, h⟩ := h
    refine gc_iast C (ci := 6) (k0 := 5) 101 (by decide) (by decide) (by decide) rfl ft_101 (by decide) g2 g3 dX3_tellBreak_16 ?_
    refine gc_nameS (fun t4 et4 => ?_)
    have h := h t4 et4
    have lt4 : kdLe t t4 := kdLe.eq (by rw [et4]; rfl)
    refine gc_aloadn C 0 0 dX3_tellBreak_17 rfl rfl ?_
    refine gc_getE C BX3 102 6 (by decide) rfl fe_102 vf_X3_24 rfl (kdLe.k lt4 g2 (by decide) (by decide)) dX3_tellBreak_18 ?_
    refine gc_iloadn C 1 1 dX3_tellBreak_21 rfl rfl ?_
    refine gc_iloadn C 3 3 dX3_tellBreak_22 rfl rfl ?_
    obtain ⟨g5, h⟩ := h
    refine gc_iast C (ci := 6) (k0 := 6) 102 (by decide) (by decide) (by decide) rfl ft_102 (by decide) (kdLe.k lt4 g2 (by decide) (by decide)) g5 dX3_tellBreak_23 ?_
    refine gc_nameS (fun t6 et6 => ?_)
    have h := h t6 et6
    have lt6 : kdLe t4 t6 := kdLe.eq (by rw [et6]; rfl)
    refine gc_aloadn C 0 0 dX3_tellBreak_24 rfl rfl ?_
    refine gc_getE C BX3 103 7 (by decide) rfl fe_103 vf_X3_27 rfl (kdLe.k (kdLe.tr lt4 lt6) g2 (by decide) (by decide)) dX3_tellBreak_25 ?_
    refine gc_iloadn C 1 1 dX3_tellBreak_28 rfl rfl ?_
    refine gc_iload C 4 dX3_tellBreak_29 rfl ?_
    obtain ⟨g7, h⟩ := h
    refine gc_iast C (ci := 6) (k0 := 7) 103 (by decide) (by decide) (by decide) rfl ft_103 (by decide) (kdLe.k (kdLe.tr lt4 lt6) g2 (by decide) (by decide)) g7 dX3_tellBreak_31 ?_
    refine gc_nameS (fun t8 et8 => ?_)
    have h := h t8 et8
    have lt8 : kdLe t6 t8 := kdLe.eq (by rw [et8]; rfl)
    refine gc_aloadn C 0 0 dX3_tellBreak_32 rfl rfl ?_
    refine gc_getE C BX3 104 8 (by decide) rfl fe_104 vf_X3_30 rfl (kdLe.k (kdLe.tr lt4 (kdLe.tr lt6 lt8)) g2 (by decide) (by decide)) dX3_tellBreak_33 ?_
    refine gc_iloadn C 1 1 dX3_tellBreak_36 rfl rfl ?_
    refine gc_iload C 5 dX3_tellBreak_37 rfl ?_
    obtain ⟨g9, h⟩ := h
    refine gc_iast C (ci := 6) (k0 := 8) 104 (by decide) (by decide) (by decide) rfl ft_104 (by decide) (kdLe.k (kdLe.tr lt4 (kdLe.tr lt6 lt8)) g2 (by decide) (by decide)) g9 dX3_tellBreak_39 ?_
    refine gc_nameS (fun t10 et10 => ?_)
    have h := h t10 et10
    have lt10 : kdLe t8 t10 := kdLe.eq (by rw [et10]; rfl)
    refine gc_sub [] rfl ?_
    exact k40 t10 (kdLe.tr lt4 (kdLe.tr lt6 (kdLe.tr lt8 lt10))) h
  refine gc_if_lt C 40 dX3_tellBreak_1 (by decide) (fun c1_1 => ?_) (fun c1_1 => ?_)
  · exact kt0 (Or.inl c1_1)
  · refine gc_iloadn C 1 1 dX3_tellBreak_4 rfl rfl ?_
    refine gc_bipush C 24 dX3_tellBreak_5 (by decide) ?_
    refine gc_icmp_ge C 40 dX3_tellBreak_7 (by decide) (fun c7_2 => ?_) (fun c7_2 => ?_)
    · exact kt0 (Or.inr c7_2)
    · exact kf0 (fun q0 => Or.elim q0 c1_1 c7_2)
def w_X4_timeBreaks_L2 (B : Nat × Nat) (a0 : Nat) (a1 : Nat) (a2 : Nat) (Q : CS → Prop) (X : String → CS → Prop) (K2 : (Int32 × CS) → Prop) (z2 : Int32 × CS) : Prop := (kdC z2.2 a0 = 7) ∧ ((fR z2.2 119 a0) ≠ none) ∧ (kdC z2.2 (oG (fR z2.2 119 a0)) = 4) ∧ (((fI z2.2 65 (oG (fR z2.2 119 a0))) ≤ z2.1) → Q z2.2) ∧ (¬ ((fI z2.2 65 (oG (fR z2.2 119 a0))) ≤ z2.1) → (d_X4_firstBarOfLine a0 z2.1 z2.2) ∧ ∀ x5 : Int32, x5 = (v_X4_firstBarOfLine a0 z2.1 z2.2) → (kdC z2.2 a2 = 9) ∧ w_X6_firstTimeOf B a2 x5 z2.2 (fun r7 t7 => w_X6_restAt B a2 (fI t7 112 a0) r7 t7 (fun r8 t8 => (kdC t8 a1 = 12) ∧ ∀ x10 : Int32, x10 = (if ¬ ((fI t8 198 a1) ≤ r8) then 1 else 0) → w_X9_isTurnForbidden B a1 (fI t8 112 a0) (x5 - 1) t8 (fun r11 t11 => ((fR t11 120 a0) ≠ none) ∧ (kdC t11 (oG (fR t11 120 a0)) = 6) ∧ w_X3_tellBreak B (oG (fR t11 120 a0)) z2.1 (x5 - 1) r7 r8 (v_X3_faultOf x10 r11) t11 (fun t14 => K2 ((z2.1 + 1), t14)) X) X) X) X)
def w_X4_timeBreaks (B : Nat × Nat) (a0 : Nat) (a1 : Nat) (a2 : Nat) (t : CS) (Q : CS → Prop) (X : String → CS → Prop) : Prop := ∃ n, lp (w_X4_timeBreaks_L2 B a0 a1 a2 Q X) n (1, t)
set_option maxRecDepth 20000 in
set_option maxHeartbeats 2000000 in
theorem c_X4_timeBreaks (l : Launch) (D : va_G) (K : Nat → ClassId) (E0 : Nat) (B : Nat × Nat) (A0 : Nat → Prop) (a0 : Nat) (a1 : Nat) (a2 : Nat) (t : CS) (Q : CS → Prop) (X : String → CS → Prop) (h : w_X4_timeBreaks B a0 a1 a2 t Q X) : MetC l yX4_timeBreaks cX4_timeBreaks 9 none 5 [.ref a0, .ref a1, .ref a2] (qV Q) X D K E0 B A0 t := by
  unfold w_X4_timeBreaks at h
  refine gc_start (by decide) rfl (Nat.le_of_ble_eq_true rfl) (fun p e s m args below meth c C E => ?_)
  refine gc_iconst C 1 dX4_timeBreaks_0 (by decide) ?_
  refine gc_istoren C 3 [(3, .int 1), (0, .ref a0), (1, .ref a1), (2, .ref a2)] dX4_timeBreaks_1 rfl (by decide) rfl ?_
  refine gc_sub [1, 2, 3, 0] rfl ?_
  obtain ⟨n2, h⟩ := h
  have k2 : ∀ (n2 : Nat) (z2 : Int32 × CS), kdLe t z2.2 → lp (w_X4_timeBreaks_L2 B a0 a1 a2 Q X) n2 z2 → GC p l e (rmC 5 B t) s m args below meth c 9 D K E0 B A0 (gc_Q below D K E0 A0 (qV Q) X args s t (rmC 5 B t)) z2.2 2 [(0, .ref a0), (1, .ref a1), (2, .ref a2), (3, .int z2.1)] [] := by
    intro n2
    induction n2 with
    | zero => intro z2 lz2 h; exact h.elim
    | succ n2 ih2 =>
      intro z2 lz2 h
      have h : w_X4_timeBreaks_L2 B a0 a1 a2 Q X (lp (w_X4_timeBreaks_L2 B a0 a1 a2 Q X) n2) z2 := h
      unfold w_X4_timeBreaks_L2 at h
      refine gc_iloadn C 3 3 dX4_timeBreaks_2 rfl rfl ?_
      refine gc_aloadn C 0 0 dX4_timeBreaks_3 rfl rfl ?_
      obtain ⟨g1, h⟩ := h
      obtain ⟨g2, h⟩ := h
      refine gc_getR C BX4 119 7 (by decide) rfl ft_119 vf_X4_30 rfl (isC_of g1 (by decide)) (oG (fR z2.2 119 a0)) (oG_some g2) dX4_timeBreaks_4 ?_
      obtain ⟨g3, h⟩ := h
      refine gc_getI C BX1 65 1 (by decide) rfl ft_65 vf_X4_103 rfl (isC_of g3 (by decide)) dX4_timeBreaks_7 ?_
      refine gc_icmp_ge C 99 dX4_timeBreaks_10 (by decide) (fun c10_1 => ?_) (fun c10_1 => ?_)
      · have h := h.1 c10_1
        exact gc_vret C E lz2 dX4_timeBreaks_99 ⟨rfl, h⟩
      · have h := h.2 c10_1
        refine gc_aloadn C 0 0 dX4_timeBreaks_13 rfl rfl ?_
        refine gc_iloadn C 3 3 dX4_timeBreaks_14 rfl rfl ?_
        obtain ⟨g4, h⟩ := h
        refine gc_callV C BX4 (y := yX4_firstBarOfLine) (as := [.int z2.1]) rfl (by decide) (by decide) (c_X4_firstBarOfLine l D K E0 B A0 a0 z2.1 z2.2 g4) hk_X4_firstBarOfLine rfl vl_X4_106 kc_X4_firstBarOfLine (isC_of g1 (by decide)) dX4_timeBreaks_15 (Nat.le_of_ble_eq_true rfl) (fun _ _ h => h.elim) (qkIP ?_)
        refine gc_nameI (fun x5 ex5 => ?_)
        have h := h x5 ex5
        refine gc_istore C [(4, .int x5), (0, .ref a0), (1, .ref a1), (2, .ref a2), (3, .int z2.1)] dX4_timeBreaks_18 (by decide) rfl ?_
        refine gc_aloadn C 3 2 dX4_timeBreaks_20 rfl rfl ?_
        refine gc_iload C 0 dX4_timeBreaks_21 rfl ?_
        obtain ⟨g6, h⟩ := h
        refine gc_callV C BX6 (y := yX6_firstTimeOf) (as := [.int x5]) rfl (by decide) (by decide) (c_X6_firstTimeOf l D K E0 B A0 a2 x5 z2.2 _ X h) hk_X6_firstTimeOf rfl vl_X4_109 kc_X6_firstTimeOf (isC_of g6 (by decide)) dX4_timeBreaks_23 (Nat.le_of_ble_eq_true rfl) (fun _ _ h => h) (qkI (fun r7 t7 h lt7 => ?_))
        refine gc_istore C [(5, .int r7), (4, .int x5), (0, .ref a0), (1, .ref a1), (2, .ref a2), (3, .int z2.1)] dX4_timeBreaks_26 (by decide) rfl ?_
        refine gc_aloadn C 4 2 dX4_timeBreaks_28 rfl rfl ?_
        refine gc_aloadn C 2 0 dX4_timeBreaks_29 rfl rfl ?_
        refine gc_getI C BX4 112 0 (by decide) rfl ft_112 vf_X4_45 rfl (isC_of (kdLe.k lt7 g1 (by decide) (by decide)) (by decide)) dX4_timeBreaks_30 ?_
        refine gc_iload C 0 dX4_timeBreaks_33 rfl ?_
        refine gc_callV C BX6 (y := yX6_restAt) (as := [.int (fI t7 112 a0), .int r7]) rfl (by decide) (by decide) (c_X6_restAt l D K E0 B A0 a2 (fI t7 112 a0) r7 t7 _ X h) hk_X6_restAt rfl vl_X4_114 kc_X6_restAt (isC_of (kdLe.k lt7 g6 (by decide) (by decide)) (by decide)) dX4_timeBreaks_35 (Nat.le_of_ble_eq_true rfl) (fun _ _ h => h) (qkI (fun r8 t8 h lt8 => ?_))
        refine gc_istore C [(6, .int r8), (5, .int r7), (4, .int x5), (0, .ref a0), (1, .ref a1), (2, .ref a2), (3, .int z2.1)] dX4_timeBreaks_38 (by decide) rfl ?_
        refine gc_iload C 0 dX4_timeBreaks_40 rfl ?_
        refine gc_aloadn C 4 1 dX4_timeBreaks_42 rfl rfl ?_
        obtain ⟨g9, h⟩ := h
        refine gc_getI C BX9 198 6 (by decide) rfl ft_198 vf_X4_117 rfl (isC_of g9 (by decide)) dX4_timeBreaks_43 ?_
        have k54 : ∀ x10 : Int32, x10 = (if ¬ ((fI t8 198 a1) ≤ r8) then 1 else 0) → GC p l e (rmC 5 B t) s m args below meth c 9 D K E0 B A0 (gc_Q below D K E0 A0 (qV Q) X args s t (rmC 5 B t)) t8 54 [(0, .ref a0), (1, .ref a1), (2, .ref a2), (3, .int z2.1), (4, .int x5), (5, .int r7), (6, .int r8)] [.int x10] := by
          intro x10 ex10
          have h := h x10 ex10
          refine gc_istore C [(7, .int x10), (0, .ref a0), (1, .ref a1), (2, .ref a2), (3, .int z2.1), (4, .int x5), (5, .int r7), (6, .int r8)] dX4_timeBreaks_54 (by decide) rfl ?_
          refine gc_aloadn C 2 1 dX4_timeBreaks_56 rfl rfl ?_
          refine gc_aloadn C 1 0 dX4_timeBreaks_57 rfl rfl ?_
          refine gc_getI C BX4 112 0 (by decide) rfl ft_112 vf_X4_45 rfl (isC_of (kdLe.k (kdLe.tr lt7 lt8) g1 (by decide) (by decide)) (by decide)) dX4_timeBreaks_58 ?_
          refine gc_iload C 5 dX4_timeBreaks_61 rfl ?_
          refine gc_iconst C 1 dX4_timeBreaks_63 (by decide) ?_
          refine gc_isub C dX4_timeBreaks_64 ?_
          refine gc_callV C BX9 (y := yX9_isTurnForbidden) (as := [.int (fI t8 112 a0), .int (x5 - 1)]) rfl (by decide) (by decide) (c_X9_isTurnForbidden l D K E0 B A0 a1 (fI t8 112 a0) (x5 - 1) t8 _ X h) hk_X9_isTurnForbidden rfl vl_X4_120 kc_X9_isTurnForbidden (isC_of g9 (by decide)) dX4_timeBreaks_65 (Nat.le_of_ble_eq_true rfl) (fun _ _ h => h) (qkI (fun r11 t11 h lt11 => ?_))
          refine gc_istore C [(8, .int r11), (7, .int x10), (0, .ref a0), (1, .ref a1), (2, .ref a2), (3, .int z2.1), (4, .int x5), (5, .int r7), (6, .int r8)] dX4_timeBreaks_68 (by decide) rfl ?_
          refine gc_aloadn C 2 0 dX4_timeBreaks_70 rfl rfl ?_
          obtain ⟨g12, h⟩ := h
          refine gc_getR C BX4 120 8 (by decide) rfl ft_120 vf_X4_37 rfl (isC_of (kdLe.k (kdLe.tr lt7 (kdLe.tr lt8 lt11)) g1 (by decide) (by decide)) (by decide)) (oG (fR t11 120 a0)) (oG_some g12) dX4_timeBreaks_71 ?_
          refine gc_iloadn C 5 3 dX4_timeBreaks_74 rfl rfl ?_
          refine gc_iload C 6 dX4_timeBreaks_75 rfl ?_
          refine gc_iconst C 1 dX4_timeBreaks_77 (by decide) ?_
          refine gc_isub C dX4_timeBreaks_78 ?_
          refine gc_iload C 7 dX4_timeBreaks_79 rfl ?_
          refine gc_iload C 8 dX4_timeBreaks_81 rfl ?_
          refine gc_iload C 1 dX4_timeBreaks_83 rfl ?_
          refine gc_iload C 0 dX4_timeBreaks_85 rfl ?_
          refine gc_callS C (y := yX3_faultOf) (as := [.int x10, .int r11]) rfl (by decide) (by decide) (c_X3_faultOf l D K E0 B A0 x10 r11 t11) hk_X3_faultOf rfl vl_X4_124 kc_X3_faultOf dX4_timeBreaks_87 (Nat.le_of_ble_eq_true rfl) (fun _ _ h => h.elim) (qkIP ?_)
          obtain ⟨g13, h⟩ := h
          refine gc_callV C BX3 (y := yX3_tellBreak) (as := [.int z2.1, .int (x5 - 1), .int r7, .int r8, .int (v_X3_faultOf x10 r11)]) rfl (by decide) (by decide) (c_X3_tellBreak l D K E0 B A0 (oG (fR t11 120 a0)) z2.1 (x5 - 1) r7 r8 (v_X3_faultOf x10 r11) t11 _ X h) hk_X3_tellBreak rfl vl_X4_128 kc_X3_tellBreak (isC_of g13 (by decide)) dX4_timeBreaks_90 (Nat.le_of_ble_eq_true rfl) (fun _ _ h => h) (qkV (fun t14 h lt14 => ?_))
          refine gc_iinc C 5 (z2.1 + 1) [(3, .int (z2.1 + 1)), (8, .int r11), (7, .int x10), (0, .ref a0), (1, .ref a1), (2, .ref a2), (4, .int x5), (5, .int r7), (6, .int r8)] dX4_timeBreaks_93 rfl rfl (by decide) rfl ?_
          refine gc_goto C 2 dX4_timeBreaks_96 (by decide) ?_
          refine gc_sub [3, 4, 5, 0] rfl ?_
          have h9 := ih2 ((z2.1 + 1), t14) (kdLe.tr lz2 (kdLe.tr lt7 (kdLe.tr lt8 (kdLe.tr lt11 lt14)))) h
          exact h9
        refine gc_icmp_ge C 53 dX4_timeBreaks_46 (by decide) (fun c46_2 => ?_) (fun c46_2 => ?_)
        · refine gc_iconst C 0 dX4_timeBreaks_53 (by decide) ?_
          refine gc_sub [3, 4, 5, 6, 2, 1, 0] rfl ?_
          exact k54 _ ((if_neg (fun q0 => q0 c46_2)).symm)
        · refine gc_iconst C 1 dX4_timeBreaks_49 (by decide) ?_
          refine gc_goto C 54 dX4_timeBreaks_50 (by decide) ?_
          refine gc_sub [3, 4, 5, 6, 2, 1, 0] rfl ?_
          exact k54 _ ((if_pos c46_2).symm)
  exact k2 n2 (1, t) (kdLe.rf _) h
def v_X3_state (a1 : Int32) (a2 : Int32) (a3 : Int32) : Int32 := (if a3 = 0 then (((4 * a1) + (2 * a2)) + 0) else (((4 * a1) + (2 * a2)) + 1))
set_option maxRecDepth 20000 in
theorem c_X3_state (l : Launch) (D : va_G) (K : Nat → ClassId) (E0 : Nat) (B : Nat × Nat) (A0 : Nat → Prop) (a1 : Int32) (a2 : Int32) (a3 : Int32) (t : CS) : MetC l yX3_state cX3_state 3 (some .int) 0 [.int a1, .int a2, .int a3] (qI (fun r t' => (v_X3_state a1 a2 a3) = r ∧ t = t')) (fun _ _ => False) D K E0 B A0 t := by
  refine gc_start (by decide) rfl (Nat.le_of_ble_eq_true rfl) (fun p e s m args below meth c C E => ?_)
  refine gc_iconst C 4 dX3_state_0 (by decide) ?_
  refine gc_iloadn C 0 0 dX3_state_1 rfl rfl ?_
  refine gc_imul C dX3_state_2 ?_
  refine gc_iconst C 2 dX3_state_3 (by decide) ?_
  refine gc_iloadn C 1 1 dX3_state_4 rfl rfl ?_
  refine gc_imul C dX3_state_5 ?_
  refine gc_iadd C dX3_state_6 ?_
  refine gc_iloadn C 2 2 dX3_state_7 rfl rfl ?_
  refine gc_if_eq C 15 dX3_state_8 (by decide) (fun c8_1 => ?_) (fun c8_1 => ?_)
  · refine gc_iconst C 0 dX3_state_15 (by decide) ?_
    refine gc_iadd C dX3_state_16 ?_
    exact gc_iret C E (kdLe.rf _) dX3_state_17 ⟨_, rfl, (Eq.symm ((if_pos c8_1).symm)), rfl⟩
  · refine gc_iconst C 1 dX3_state_11 (by decide) ?_
    refine gc_goto C 16 dX3_state_12 (by decide) ?_
    refine gc_iadd C dX3_state_16 ?_
    exact gc_iret C E (kdLe.rf _) dX3_state_17 ⟨_, rfl, (Eq.symm ((if_neg c8_1).symm)), rfl⟩
def v_X3_hasTurn (a1 : Int32) (a2 : Int32) (a3 : Int32) : Int32 := (if (¬ (a1 ≤ 0)) ∧ ((¬ (a3 = 0)) ∨ (a2 = 1)) then 1 else 0)
theorem vb_X3_hasTurn {a1 : Int32} {a2 : Int32} {a3 : Int32} : gb (v_X3_hasTurn a1 a2 a3) := by unfold v_X3_hasTurn; split <;> first | exact Or.inr rfl | exact Or.inl rfl
set_option maxRecDepth 20000 in
theorem c_X3_hasTurn (l : Launch) (D : va_G) (K : Nat → ClassId) (E0 : Nat) (B : Nat × Nat) (A0 : Nat → Prop) (a1 : Int32) (a2 : Int32) (a3 : Int32) (t : CS) : MetC l yX3_hasTurn cX3_hasTurn 3 (some .boolean) 0 [.int a1, .int a2, .int a3] (qI (fun r t' => (v_X3_hasTurn a1 a2 a3) = r ∧ t = t')) (fun _ _ => False) D K E0 B A0 t := by
  refine gc_start (by decide) rfl (Nat.le_of_ble_eq_true rfl) (fun p e s m args below meth c C E => ?_)
  refine gc_iloadn C 0 0 dX3_hasTurn_0 rfl rfl ?_
  refine gc_if_le C 17 dX3_hasTurn_1 (by decide) (fun c1_1 => ?_) (fun c1_1 => ?_)
  · refine gc_iconst C 0 dX3_hasTurn_17 (by decide) ?_
    exact gc_zret C E (Or.inl rfl) (kdLe.rf _) dX3_hasTurn_18 ⟨_, rfl, (Eq.symm ((if_neg (fun q0 => q0.1 c1_1)).symm)), rfl⟩
  · refine gc_iloadn C 2 2 dX3_hasTurn_4 rfl rfl ?_
    refine gc_if_ne C 13 dX3_hasTurn_5 (by decide) (fun c5_2 => ?_) (fun c5_2 => ?_)
    · refine gc_iconst C 1 dX3_hasTurn_13 (by decide) ?_
      refine gc_goto C 18 dX3_hasTurn_14 (by decide) ?_
      exact gc_zret C E (Or.inr rfl) (kdLe.rf _) dX3_hasTurn_18 ⟨_, rfl, (Eq.symm ((if_pos ⟨c1_1, (Or.inl c5_2)⟩).symm)), rfl⟩
    · refine gc_iloadn C 1 1 dX3_hasTurn_8 rfl rfl ?_
      refine gc_iconst C 1 dX3_hasTurn_9 (by decide) ?_
      refine gc_icmp_ne C 17 dX3_hasTurn_10 (by decide) (fun c10_3 => ?_) (fun c10_3 => ?_)
      · refine gc_iconst C 0 dX3_hasTurn_17 (by decide) ?_
        exact gc_zret C E (Or.inl rfl) (kdLe.rf _) dX3_hasTurn_18 ⟨_, rfl, (Eq.symm ((if_neg (fun q0 => (fun q1 => Or.elim q1 (fun r => r c5_2) c10_3) q0.2)).symm)), rfl⟩
      · refine gc_iconst C 1 dX3_hasTurn_13 (by decide) ?_
        refine gc_goto C 18 dX3_hasTurn_14 (by decide) ?_
        exact gc_zret C E (Or.inr rfl) (kdLe.rf _) dX3_hasTurn_18 ⟨_, rfl, (Eq.symm ((if_pos ⟨c1_1, (Or.inr c10_3)⟩).symm)), rfl⟩
def w_X3_weighPagesFrom_L50 (a0 : Nat) (a1 : Int32) (a2 : Int32) (a3 : Int32) (a4 : Int32) (a5 : Int32) (Q : CS → Prop) (x1 : Int32) (x2 : Int32) (K50 : (Int32 × CS) → Prop) (z50 : Int32 × CS) : Prop := ((z50.1 ≤ 0) → ∃ J202 : CS → Prop, (∀ t9 : CS, J202 t9 → (Q t9)) ∧ (((a3 = 0) → (vp_in (v_X3_state a1 (1 - a2) 1) (cLN 105)) ∧ ∀ x11 : Int64, x11 = (300001 + (fJ z50.2 a0 (Int32.toNatClampNeg (v_X3_state a1 (1 - a2) 1)))) → (vp_in x1 (cLN 105)) ∧ ((x11 < (fJ z50.2 a0 (Int32.toNatClampNeg x1))) → (vp_in x1 (cLN 105)) ∧ ∀ t14 : CS, t14 = usJ z50.2 a0 x1 x11 → (vp_in x1 (cLN 106)) ∧ ∀ t16 : CS, t16 = usA t14 106 a0 x1 0 → J202 t16) ∧ (¬ (x11 < (fJ z50.2 a0 (Int32.toNatClampNeg x1))) → J202 z50.2)) ∧ (¬ (a3 = 0) → J202 z50.2))) ∧ (¬ (z50.1 ≤ 0) → ∀ x17 : Int32, x17 = (if a4 ≤ (a1 + z50.1) then 0 else (a5 - z50.1)) → (vp_in (v_X3_state (a1 + z50.1) (1 - a2) 0) (cLN 105)) ∧ ∀ x19 : Int64, x19 = (((100 * (Int32.toInt64 (x2 + ((100 * x17) * x17)))) + 1) + (fJ z50.2 a0 (Int32.toNatClampNeg (v_X3_state (a1 + z50.1) (1 - a2) 0)))) → (vp_in x1 (cLN 105)) ∧ ∃ J143 : CS → Prop, (∀ t21 : CS, J143 t21 → (K50 ((z50.1 + (-1)), t21))) ∧ (((x19 < (fJ z50.2 a0 (Int32.toNatClampNeg x1))) → (vp_in x1 (cLN 105)) ∧ ∀ t23 : CS, t23 = usJ z50.2 a0 x1 x19 → (vp_in x1 (cLN 106)) ∧ ∀ t25 : CS, t25 = usA t23 106 a0 x1 z50.1 → J143 t25) ∧ (¬ (x19 < (fJ z50.2 a0 (Int32.toNatClampNeg x1))) → J143 z50.2)))
def w_X3_weighPagesFrom (B : Nat × Nat) (a0 : Nat) (a1 : Int32) (a2 : Int32) (a3 : Int32) (a4 : Int32) (a5 : Int32) (t : CS) (Q : CS → Prop) (X : String → CS → Prop) : Prop := ∀ x1 : Int32, x1 = (v_X3_state a1 a2 a3) → ((¬ ((v_X3_hasTurn a1 a2 a3) = 0)) → kdC t a0 = 6) ∧ ((¬ ((v_X3_hasTurn a1 a2 a3) = 0)) → vp_in a1 (cLN 104)) ∧ ∀ x2 : Int32, x2 = (if (v_X3_hasTurn a1 a2 a3) = 0 then 0 else (fA t 104 a0 (Int32.toNatClampNeg a1))) → (kdC t a0 = 6) ∧ (vp_in x1 (cLN 105)) ∧ ∀ t7 : CS, t7 = usJ t a0 x1 1152921504606846976 → ∀ x8 : Int32, x8 = (mMin a5 (a4 - a1)) → ∃ n, lp (w_X3_weighPagesFrom_L50 a0 a1 a2 a3 a4 a5 Q x1 x2) n (x8, t7)
set_option maxRecDepth 20000 in
set_option maxHeartbeats 2000000 in
theorem c_X3_weighPagesFrom (l : Launch) (D : va_G) (K : Nat → ClassId) (E0 : Nat) (B : Nat × Nat) (A0 : Nat → Prop) (a0 : Nat) (a1 : Int32) (a2 : Int32) (a3 : Int32) (a4 : Int32) (a5 : Int32) (t : CS) (Q : CS → Prop) (X : String → CS → Prop) (h : w_X3_weighPagesFrom B a0 a1 a2 a3 a4 a5 t Q X) : MetC l yX3_weighPagesFrom cX3_weighPagesFrom 12 none 1 [.ref a0, .int a1, .int a2, .int a3, .int a4, .int a5] (qV Q) X D K E0 B A0 t := by
  unfold w_X3_weighPagesFrom at h
  refine gc_start (by decide) rfl (Nat.le_of_ble_eq_true rfl) (fun p e s m args below meth c C E => ?_)
  refine gc_iloadn C 1 1 dX3_weighPagesFrom_0 rfl rfl ?_
  refine gc_iloadn C 2 2 dX3_weighPagesFrom_1 rfl rfl ?_
  refine gc_iloadn C 3 3 dX3_weighPagesFrom_2 rfl rfl ?_
  refine gc_callS C (y := yX3_state) (as := [.int a1, .int a2, .int a3]) rfl (by decide) (by decide) (c_X3_state l D K E0 B A0 a1 a2 a3 t) hk_X3_state rfl vl_X3_47 kc_X3_state dX3_weighPagesFrom_3 (Nat.le_of_ble_eq_true rfl) (fun _ _ h => h.elim) (qkIP ?_)
  refine gc_nameI (fun x1 ex1 => ?_)
  have h := h x1 ex1
  refine gc_istore C [(6, .int x1), (0, .ref a0), (1, .int a1), (2, .int a2), (3, .int a3), (4, .int a4), (5, .int a5)] dX3_weighPagesFrom_6 (by decide) rfl ?_
  refine gc_iloadn C 2 1 dX3_weighPagesFrom_8 rfl rfl ?_
  refine gc_iloadn C 3 2 dX3_weighPagesFrom_9 rfl rfl ?_
  refine gc_iloadn C 4 3 dX3_weighPagesFrom_10 rfl rfl ?_
  refine gc_callS C (y := yX3_hasTurn) (as := [.int a1, .int a2, .int a3]) rfl (by decide) (by decide) (c_X3_hasTurn l D K E0 B A0 a1 a2 a3 t) hk_X3_hasTurn rfl vl_X3_59 kc_X3_hasTurn dX3_weighPagesFrom_11 (Nat.le_of_ble_eq_true rfl) (fun _ _ h => h.elim) (qkIP ?_)
  obtain ⟨g3, h⟩ := h
  obtain ⟨g4, h⟩ := h
  have k27 : ∀ x2 : Int32, x2 = (if (v_X3_hasTurn a1 a2 a3) = 0 then 0 else (fA t 104 a0 (Int32.toNatClampNeg a1))) → GC p l e (rmC 1 B t) s m args below meth c 12 D K E0 B A0 (gc_Q below D K E0 A0 (qV Q) X args s t (rmC 1 B t)) t 27 [(0, .ref a0), (1, .int a1), (2, .int a2), (3, .int a3), (4, .int a4), (5, .int a5), (6, .int x1)] [.int x2] := by
    intro x2 ex2
    have h := h x2 ex2
    refine gc_istore C [(7, .int x2), (0, .ref a0), (1, .int a1), (2, .int a2), (3, .int a3), (4, .int a4), (5, .int a5), (6, .int x1)] dX3_weighPagesFrom_27 (by decide) rfl ?_
    refine gc_aloadn C 1 0 dX3_weighPagesFrom_29 rfl rfl ?_
    obtain ⟨g5, h⟩ := h
    refine gc_getE C BX3 105 9 (by decide) rfl fe_105 vf_X3_33 rfl g5 dX3_weighPagesFrom_30 ?_
    refine gc_iload C 7 dX3_weighPagesFrom_33 rfl ?_
    refine gc_ldc2 C 1152921504606846976 v_i901 dX3_weighPagesFrom_35 ?_
    obtain ⟨g6, h⟩ := h
    refine gc_last C (ci := 6) (k0 := 9) 105 (by decide) (by decide) (by decide) rfl one_J ft_105 (by decide) g5 g6 dX3_weighPagesFrom_38 ?_
    refine gc_nameS (fun t7 et7 => ?_)
    have h := h t7 et7
    have lt7 : kdLe t t7 := kdLe.eq (by rw [et7]; rfl)
    refine gc_iload C 6 dX3_weighPagesFrom_39 rfl ?_
    refine gc_iload C 5 dX3_weighPagesFrom_41 rfl ?_
    refine gc_iloadn C 2 1 dX3_weighPagesFrom_43 rfl rfl ?_
    refine gc_isub C dX3_weighPagesFrom_44 ?_
    refine gc_min C rfl (by decide) vm_X3_41 (Nat.le_of_ble_eq_true rfl) dX3_weighPagesFrom_45 ?_
    refine gc_nameI (fun x8 ex8 => ?_)
    have h := h x8 ex8
    refine gc_istore C [(8, .int x8), (7, .int x2), (0, .ref a0), (1, .int a1), (2, .int a2), (3, .int a3), (4, .int a4), (5, .int a5), (6, .int x1)] dX3_weighPagesFrom_48 (by decide) rfl ?_
    refine gc_sub [2, 3, 4, 5, 6, 7, 8, 1, 0] rfl ?_
    obtain ⟨n50, h⟩ := h
    have k50 : ∀ (n50 : Nat) (z50 : Int32 × CS), kdLe t7 z50.2 → lp (w_X3_weighPagesFrom_L50 a0 a1 a2 a3 a4 a5 Q x1 x2) n50 z50 → GC p l e (rmC 1 B t) s m args below meth c 12 D K E0 B A0 (gc_Q below D K E0 A0 (qV Q) X args s t (rmC 1 B t)) z50.2 50 [(0, .ref a0), (1, .int a1), (2, .int a2), (3, .int a3), (4, .int a4), (5, .int a5), (6, .int x1), (7, .int x2), (8, .int z50.1)] [] := by
      intro n50
      induction n50 with
      | zero => intro z50 lz50 h; exact h.elim
      | succ n50 ih50 =>
        intro z50 lz50 h
        have h : w_X3_weighPagesFrom_L50 a0 a1 a2 a3 a4 a5 Q x1 x2 (lp (w_X3_weighPagesFrom_L50 a0 a1 a2 a3 a4 a5 Q x1 x2) n50) z50 := h
        unfold w_X3_weighPagesFrom_L50 at h
        refine gc_iload C 8 dX3_weighPagesFrom_50 rfl ?_
        refine gc_if_le C 149 dX3_weighPagesFrom_52 (by decide) (fun c52_2 => ?_) (fun c52_2 => ?_)
        · have h := h.1 c52_2
          refine gc_iloadn C 3 3 dX3_weighPagesFrom_149 rfl rfl ?_
          obtain ⟨J202, hJ202, h⟩ := h
          have k202 : ∀ t9 : CS, kdLe z50.2 t9 → J202 t9 → GC p l e (rmC 1 B t) s m args below meth c 12 D K E0 B A0 (gc_Q below D K E0 A0 (qV Q) X args s t (rmC 1 B t)) t9 202 [] [] := by
            intro t9 lt9 h
            have h := hJ202 t9 h
            exact gc_vret C E (kdLe.tr lt7 (kdLe.tr lz50 lt9)) dX3_weighPagesFrom_202 ⟨rfl, h⟩
          refine gc_if_ne C 202 dX3_weighPagesFrom_150 (by decide) (fun c150_3 => ?_) (fun c150_3 => ?_)
          · have h := h.2 c150_3
            refine gc_sub [] rfl ?_
            exact k202 z50.2 (kdLe.rf _) h
          · have h := h.1 c150_3
            refine gc_ldc2 C 300001 v_i903 dX3_weighPagesFrom_153 ?_
            refine gc_aloadn C 0 0 dX3_weighPagesFrom_156 rfl rfl ?_
            refine gc_getE C BX3 105 9 (by decide) rfl fe_105 vf_X3_33 rfl (kdLe.k (kdLe.tr lt7 lz50) g5 (by decide) (by decide)) dX3_weighPagesFrom_157 ?_
            refine gc_iloadn C 1 1 dX3_weighPagesFrom_160 rfl rfl ?_
            refine gc_iconst C 1 dX3_weighPagesFrom_161 (by decide) ?_
            refine gc_iloadn C 2 2 dX3_weighPagesFrom_162 rfl rfl ?_
            refine gc_isub C dX3_weighPagesFrom_163 ?_
            refine gc_iconst C 1 dX3_weighPagesFrom_164 (by decide) ?_
            refine gc_callS C (y := yX3_state) (as := [.int a1, .int (1 - a2), .int 1]) rfl (by decide) (by decide) (c_X3_state l D K E0 B A0 a1 (1 - a2) 1 z50.2) hk_X3_state rfl vl_X3_47 kc_X3_state dX3_weighPagesFrom_165 (Nat.le_of_ble_eq_true rfl) (fun _ _ h => h.elim) (qkIP ?_)
            obtain ⟨g10, h⟩ := h
            refine gc_lald C (ci := 6) (k0 := 9) 105 (by decide) (by decide) (by decide) rfl ft_105 (by decide) (kdLe.k (kdLe.tr lt7 lz50) g5 (by decide) (by decide)) g10 dX3_weighPagesFrom_168 ?_
            refine gc_ladd C dX3_weighPagesFrom_169 ?_
            refine gc_nameL (fun x11 ex11 => ?_)
            have h := h x11 ex11
            refine gc_lstore C [(8, .long x11), (0, .ref a0), (1, .int a1), (2, .int a2), (3, .int a3), (4, .int a4), (5, .int a5), (6, .int x1), (7, .int x2)] dX3_weighPagesFrom_170 (by decide) rfl ?_
            refine gc_lload C 0 dX3_weighPagesFrom_172 rfl ?_
            refine gc_aloadn C 1 0 dX3_weighPagesFrom_174 rfl rfl ?_
            refine gc_getE C BX3 105 9 (by decide) rfl fe_105 vf_X3_33 rfl (kdLe.k (kdLe.tr lt7 lz50) g5 (by decide) (by decide)) dX3_weighPagesFrom_175 ?_
            refine gc_iload C 7 dX3_weighPagesFrom_178 rfl ?_
            obtain ⟨g12, h⟩ := h
            refine gc_lald C (ci := 6) (k0 := 9) 105 (by decide) (by decide) (by decide) rfl ft_105 (by decide) (kdLe.k (kdLe.tr lt7 lz50) g5 (by decide) (by decide)) g12 dX3_weighPagesFrom_180 ?_
            refine gc_lcmpge C 202 dX3_weighPagesFrom_181 dX3_weighPagesFrom_182 (by decide) (fun c181_4 => ?_) (fun c181_4 => ?_)
            · have h := h.2 c181_4
              refine gc_sub [] rfl ?_
              exact k202 z50.2 (kdLe.rf _) h
            · have h := h.1 c181_4
              refine gc_aloadn C 1 0 dX3_weighPagesFrom_185 rfl rfl ?_
              refine gc_getE C BX3 105 9 (by decide) rfl fe_105 vf_X3_33 rfl (kdLe.k (kdLe.tr lt7 lz50) g5 (by decide) (by decide)) dX3_weighPagesFrom_186 ?_
              refine gc_iload C 7 dX3_weighPagesFrom_189 rfl ?_
              refine gc_lload C 0 dX3_weighPagesFrom_191 rfl ?_
              obtain ⟨g13, h⟩ := h
              refine gc_last C (ci := 6) (k0 := 9) 105 (by decide) (by decide) (by decide) rfl one_J ft_105 (by decide) (kdLe.k (kdLe.tr lt7 lz50) g5 (by decide) (by decide)) g13 dX3_weighPagesFrom_193 ?_
              refine gc_nameS (fun t14 et14 => ?_)
              have h := h t14 et14
              have lt14 : kdLe z50.2 t14 := kdLe.eq (by rw [et14]; rfl)
              refine gc_aloadn C 1 0 dX3_weighPagesFrom_194 rfl rfl ?_
              refine gc_getE C BX3 106 10 (by decide) rfl fe_106 vf_X3_37 rfl (kdLe.k (kdLe.tr lt7 (kdLe.tr lz50 lt14)) g5 (by decide) (by decide)) dX3_weighPagesFrom_195 ?_
              refine gc_iload C 7 dX3_weighPagesFrom_198 rfl ?_
              refine gc_iconst C 0 dX3_weighPagesFrom_200 (by decide) ?_
              obtain ⟨g15, h⟩ := h
              refine gc_iast C (ci := 6) (k0 := 10) 106 (by decide) (by decide) (by decide) rfl ft_106 (by decide) (kdLe.k (kdLe.tr lt7 (kdLe.tr lz50 lt14)) g5 (by decide) (by decide)) g15 dX3_weighPagesFrom_201 ?_
              refine gc_nameS (fun t16 et16 => ?_)
              have h := h t16 et16
              have lt16 : kdLe t14 t16 := kdLe.eq (by rw [et16]; rfl)
              refine gc_sub [] rfl ?_
              exact k202 t16 (kdLe.tr lt14 lt16) h
        · have h := h.2 c52_2
          refine gc_iloadn C 1 1 dX3_weighPagesFrom_55 rfl rfl ?_
          refine gc_iload C 8 dX3_weighPagesFrom_56 rfl ?_
          refine gc_iadd C dX3_weighPagesFrom_58 ?_
          refine gc_iload C 4 dX3_weighPagesFrom_59 rfl ?_
          have k73 : ∀ x17 : Int32, x17 = (if a4 ≤ (a1 + z50.1) then 0 else (a5 - z50.1)) → GC p l e (rmC 1 B t) s m args below meth c 12 D K E0 B A0 (gc_Q below D K E0 A0 (qV Q) X args s t (rmC 1 B t)) z50.2 73 [(0, .ref a0), (1, .int a1), (2, .int a2), (3, .int a3), (4, .int a4), (5, .int a5), (6, .int x1), (7, .int x2), (8, .int z50.1)] [.int x17] := by
            intro x17 ex17
            have h := h x17 ex17
            refine gc_istore C [(9, .int x17), (0, .ref a0), (1, .int a1), (2, .int a2), (3, .int a3), (4, .int a4), (5, .int a5), (6, .int x1), (7, .int x2), (8, .int z50.1)] dX3_weighPagesFrom_73 (by decide) rfl ?_
            refine gc_ldc2 C 100 v_i902 dX3_weighPagesFrom_75 ?_
            refine gc_iload C 8 dX3_weighPagesFrom_78 rfl ?_
            refine gc_bipush C 100 dX3_weighPagesFrom_80 (by decide) ?_
            refine gc_iload C 0 dX3_weighPagesFrom_82 rfl ?_
            refine gc_imul C dX3_weighPagesFrom_84 ?_
            refine gc_iload C 0 dX3_weighPagesFrom_85 rfl ?_
            refine gc_imul C dX3_weighPagesFrom_87 ?_
            refine gc_iadd C dX3_weighPagesFrom_88 ?_
            refine gc_i2l C dX3_weighPagesFrom_89 ?_
            refine gc_lmul C dX3_weighPagesFrom_90 ?_
            refine gc_lconst C 1 dX3_weighPagesFrom_91 (by decide) ?_
            refine gc_ladd C dX3_weighPagesFrom_92 ?_
            refine gc_aloadn C 1 0 dX3_weighPagesFrom_93 rfl rfl ?_
            refine gc_getE C BX3 105 9 (by decide) rfl fe_105 vf_X3_33 rfl (kdLe.k (kdLe.tr lt7 lz50) g5 (by decide) (by decide)) dX3_weighPagesFrom_94 ?_
            refine gc_iloadn C 2 1 dX3_weighPagesFrom_97 rfl rfl ?_
            refine gc_iload C 9 dX3_weighPagesFrom_98 rfl ?_
            refine gc_iadd C dX3_weighPagesFrom_100 ?_
            refine gc_iconst C 1 dX3_weighPagesFrom_101 (by decide) ?_
            refine gc_iloadn C 3 2 dX3_weighPagesFrom_102 rfl rfl ?_
            refine gc_isub C dX3_weighPagesFrom_103 ?_
            refine gc_iconst C 0 dX3_weighPagesFrom_104 (by decide) ?_
            refine gc_callS C (y := yX3_state) (as := [.int (a1 + z50.1), .int (1 - a2), .int 0]) rfl (by decide) (by decide) (c_X3_state l D K E0 B A0 (a1 + z50.1) (1 - a2) 0 z50.2) hk_X3_state rfl vl_X3_47 kc_X3_state dX3_weighPagesFrom_105 (Nat.le_of_ble_eq_true rfl) (fun _ _ h => h.elim) (qkIP ?_)
            obtain ⟨g18, h⟩ := h
            refine gc_lald C (ci := 6) (k0 := 9) 105 (by decide) (by decide) (by decide) rfl ft_105 (by decide) (kdLe.k (kdLe.tr lt7 lz50) g5 (by decide) (by decide)) g18 dX3_weighPagesFrom_108 ?_
            refine gc_ladd C dX3_weighPagesFrom_109 ?_
            refine gc_nameL (fun x19 ex19 => ?_)
            have h := h x19 ex19
            refine gc_lstore C [(10, .long x19), (9, .int x17), (0, .ref a0), (1, .int a1), (2, .int a2), (3, .int a3), (4, .int a4), (5, .int a5), (6, .int x1), (7, .int x2), (8, .int z50.1)] dX3_weighPagesFrom_110 (by decide) rfl ?_
            refine gc_lload C 0 dX3_weighPagesFrom_112 rfl ?_
            refine gc_aloadn C 2 0 dX3_weighPagesFrom_114 rfl rfl ?_
            refine gc_getE C BX3 105 9 (by decide) rfl fe_105 vf_X3_33 rfl (kdLe.k (kdLe.tr lt7 lz50) g5 (by decide) (by decide)) dX3_weighPagesFrom_115 ?_
            refine gc_iload C 8 dX3_weighPagesFrom_118 rfl ?_
            obtain ⟨g20, h⟩ := h
            refine gc_lald C (ci := 6) (k0 := 9) 105 (by decide) (by decide) (by decide) rfl ft_105 (by decide) (kdLe.k (kdLe.tr lt7 lz50) g5 (by decide) (by decide)) g20 dX3_weighPagesFrom_120 ?_
            obtain ⟨J143, hJ143, h⟩ := h
            have k143 : ∀ t21 : CS, kdLe z50.2 t21 → J143 t21 → GC p l e (rmC 1 B t) s m args below meth c 12 D K E0 B A0 (gc_Q below D K E0 A0 (qV Q) X args s t (rmC 1 B t)) t21 143 [(0, .ref a0), (1, .int a1), (2, .int a2), (3, .int a3), (4, .int a4), (5, .int a5), (6, .int x1), (7, .int x2), (8, .int z50.1)] [] := by
              intro t21 lt21 h
              have h := hJ143 t21 h
              refine gc_iinc C 8 (z50.1 + (-1)) [(8, .int (z50.1 + (-1))), (0, .ref a0), (1, .int a1), (2, .int a2), (3, .int a3), (4, .int a4), (5, .int a5), (6, .int x1), (7, .int x2)] dX3_weighPagesFrom_143 rfl rfl (by decide) rfl ?_
              refine gc_goto C 50 dX3_weighPagesFrom_146 (by decide) ?_
              refine gc_sub [1, 2, 3, 4, 5, 6, 7, 8, 0] rfl ?_
              have h9 := ih50 ((z50.1 + (-1)), t21) (kdLe.tr lz50 lt21) h
              exact h9
            refine gc_lcmpge C 143 dX3_weighPagesFrom_121 dX3_weighPagesFrom_122 (by decide) (fun c121_6 => ?_) (fun c121_6 => ?_)
            · have h := h.2 c121_6
              refine gc_sub [2, 3, 4, 5, 6, 7, 8, 9, 10] rfl ?_
              exact k143 z50.2 (kdLe.rf _) h
            · have h := h.1 c121_6
              refine gc_aloadn C 2 0 dX3_weighPagesFrom_125 rfl rfl ?_
              refine gc_getE C BX3 105 9 (by decide) rfl fe_105 vf_X3_33 rfl (kdLe.k (kdLe.tr lt7 lz50) g5 (by decide) (by decide)) dX3_weighPagesFrom_126 ?_
              refine gc_iload C 8 dX3_weighPagesFrom_129 rfl ?_
              refine gc_lload C 0 dX3_weighPagesFrom_131 rfl ?_
              obtain ⟨g22, h⟩ := h
              refine gc_last C (ci := 6) (k0 := 9) 105 (by decide) (by decide) (by decide) rfl one_J ft_105 (by decide) (kdLe.k (kdLe.tr lt7 lz50) g5 (by decide) (by decide)) g22 dX3_weighPagesFrom_133 ?_
              refine gc_nameS (fun t23 et23 => ?_)
              have h := h t23 et23
              have lt23 : kdLe z50.2 t23 := kdLe.eq (by rw [et23]; rfl)
              refine gc_aloadn C 2 0 dX3_weighPagesFrom_134 rfl rfl ?_
              refine gc_getE C BX3 106 10 (by decide) rfl fe_106 vf_X3_37 rfl (kdLe.k (kdLe.tr lt7 (kdLe.tr lz50 lt23)) g5 (by decide) (by decide)) dX3_weighPagesFrom_135 ?_
              refine gc_iload C 8 dX3_weighPagesFrom_138 rfl ?_
              refine gc_iload C 10 dX3_weighPagesFrom_140 rfl ?_
              obtain ⟨g24, h⟩ := h
              refine gc_iast C (ci := 6) (k0 := 10) 106 (by decide) (by decide) (by decide) rfl ft_106 (by decide) (kdLe.k (kdLe.tr lt7 (kdLe.tr lz50 lt23)) g5 (by decide) (by decide)) g24 dX3_weighPagesFrom_142 ?_
              refine gc_nameS (fun t25 et25 => ?_)
              have h := h t25 et25
              have lt25 : kdLe t23 t25 := kdLe.eq (by rw [et25]; rfl)
              refine gc_sub [2, 3, 4, 5, 6, 7, 8, 9, 10] rfl ?_
              exact k143 t25 (kdLe.tr lt23 lt25) h
          refine gc_icmp_ge C 72 dX3_weighPagesFrom_61 (by decide) (fun c61_5 => ?_) (fun c61_5 => ?_)
          · refine gc_iconst C 0 dX3_weighPagesFrom_72 (by decide) ?_
            exact k73 _ ((if_pos c61_5).symm)
          · refine gc_iload C 5 dX3_weighPagesFrom_64 rfl ?_
            refine gc_iload C 8 dX3_weighPagesFrom_66 rfl ?_
            refine gc_isub C dX3_weighPagesFrom_68 ?_
            refine gc_goto C 73 dX3_weighPagesFrom_69 (by decide) ?_
            exact k73 _ ((if_neg c61_5).symm)
    exact k50 n50 (x8, t7) (kdLe.rf _) h
  refine gc_if_eq C 26 dX3_weighPagesFrom_14 (by decide) (fun c14_1 => ?_) (fun c14_1 => ?_)
  · refine gc_iconst C 0 dX3_weighPagesFrom_26 (by decide) ?_
    refine gc_sub [1, 2, 3, 4, 5, 6, 0] rfl ?_
    exact k27 _ ((if_pos c14_1).symm)
  · refine gc_aloadn C 1 0 dX3_weighPagesFrom_17 rfl rfl ?_
    refine gc_getE C BX3 104 8 (by decide) rfl fe_104 vf_X3_30 rfl (g3 c14_1) dX3_weighPagesFrom_18 ?_
    refine gc_iloadn C 2 1 dX3_weighPagesFrom_21 rfl rfl ?_
    refine gc_iald C (ci := 6) (k0 := 8) 104 (by decide) (by decide) (by decide) rfl ft_104 (by decide) (g3 c14_1) (g4 c14_1) dX3_weighPagesFrom_22 ?_
    refine gc_goto C 27 dX3_weighPagesFrom_23 (by decide) ?_
    refine gc_sub [1, 2, 3, 4, 5, 6, 0] rfl ?_
    exact k27 _ ((if_neg c14_1).symm)
def w_X3_takeLeastPages_L14 (a0 : Nat) (a1 : Int32) (Q : CS → Prop) (K14 : (Int32 × Int32 × CS) → Prop) (z14 : Int32 × Int32 × CS) : Prop := (((a1 ≤ z14.1) ∨ (48 ≤ (fI z14.2.2 98 a0))) → Q z14.2.2) ∧ (¬ ((a1 ≤ z14.1) ∨ (48 ≤ (fI z14.2.2 98 a0))) → ∀ x4 : Int32, x4 = (mRem (fI z14.2.2 98 a0) 2) → (vp_in (v_X3_state z14.1 x4 z14.2.1) (cLN 106)) ∧ ∀ x6 : Int32, x6 = (fA z14.2.2 106 a0 (Int32.toNatClampNeg (v_X3_state z14.1 x4 z14.2.1))) → ∃ J94 : CS → Prop, (∀ t7 : CS, J94 t7 → ((vp_in (fI t7 98 a0) (cLN 96)) ∧ ∀ t9 : CS, t9 = usA t7 96 a0 (fI t7 98 a0) x6 → (vp_in (fI t9 98 a0) (cLN 97)) ∧ ∀ t11 : CS, t11 = usA t9 97 a0 (fI t9 98 a0) z14.1 → ∀ t12 : CS, t12 = usI t11 98 a0 ((fI t11 98 a0) + 1) → ∀ x13 : Int32, x13 = (z14.1 + x6) → ∀ x14 : Int32, x14 = (if x6 = 0 then 1 else 0) → K14 (x13, x14, t12))) ∧ ((((x6 ≤ 0) ∨ (((v_X3_hasTurn z14.1 x4 z14.2.1) = 0) ∨ (24 ≤ (fI z14.2.2 100 a0)))) → J94 z14.2.2) ∧ (¬ ((x6 ≤ 0) ∨ (((v_X3_hasTurn z14.1 x4 z14.2.1) = 0) ∨ (24 ≤ (fI z14.2.2 100 a0)))) → (vp_in (fI z14.2.2 100 a0) (cLN 99)) ∧ ∀ t16 : CS, t16 = usA z14.2.2 99 a0 (fI z14.2.2 100 a0) z14.1 → ∀ t17 : CS, t17 = usI t16 100 a0 ((fI t16 100 a0) + 1) → J94 t17)))
def w_X3_takeLeastPages (B : Nat × Nat) (a0 : Nat) (a1 : Int32) (t : CS) (Q : CS → Prop) (X : String → CS → Prop) : Prop := (kdC t a0 = 6) ∧ ∀ t2 : CS, t2 = usI t 98 a0 0 → ∀ t3 : CS, t3 = usI t2 100 a0 0 → ∃ n, lp (w_X3_takeLeastPages_L14 a0 a1 Q) n (0, 0, t3)
set_option maxRecDepth 20000 in
set_option maxHeartbeats 2000000 in
theorem c_X3_takeLeastPages (l : Launch) (D : va_G) (K : Nat → ClassId) (E0 : Nat) (B : Nat × Nat) (A0 : Nat → Prop) (a0 : Nat) (a1 : Int32) (t : CS) (Q : CS → Prop) (X : String → CS → Prop) (h : w_X3_takeLeastPages B a0 a1 t Q X) : MetC l yX3_takeLeastPages cX3_takeLeastPages 6 none 1 [.ref a0, .int a1] (qV Q) X D K E0 B A0 t := by
  unfold w_X3_takeLeastPages at h
  refine gc_start (by decide) rfl (Nat.le_of_ble_eq_true rfl) (fun p e s m args below meth c C E => ?_)
  refine gc_iconst C 0 dX3_takeLeastPages_0 (by decide) ?_
  refine gc_istoren C 2 [(2, .int 0), (0, .ref a0), (1, .int a1)] dX3_takeLeastPages_1 rfl (by decide) rfl ?_
  refine gc_iconst C 0 dX3_takeLeastPages_2 (by decide) ?_
  refine gc_istoren C 3 [(3, .int 0), (2, .int 0), (0, .ref a0), (1, .int a1)] dX3_takeLeastPages_3 rfl (by decide) rfl ?_
  refine gc_aloadn C 2 0 dX3_takeLeastPages_4 rfl rfl ?_
  refine gc_iconst C 0 dX3_takeLeastPages_5 (by decide) ?_
  obtain ⟨g1, h⟩ := h
  refine gc_putI C BX3 98 2 (by decide) rfl .int ft_98 vf_X3_69 rfl rfl (by decide +kernel) rfl rfl (isC_of g1 (by decide)) dX3_takeLeastPages_6 ?_
  refine gc_nameS (fun t2 et2 => ?_)
  have h := h t2 et2
  have lt2 : kdLe t t2 := kdLe.eq (by rw [et2]; rfl)
  refine gc_aloadn C 2 0 dX3_takeLeastPages_9 rfl rfl ?_
  refine gc_iconst C 0 dX3_takeLeastPages_10 (by decide) ?_
  refine gc_putI C BX3 100 4 (by decide) rfl .int ft_100 vf_X3_73 rfl rfl (by decide +kernel) rfl rfl (isC_of (kdLe.k lt2 g1 (by decide) (by decide)) (by decide)) dX3_takeLeastPages_11 ?_
  refine gc_nameS (fun t3 et3 => ?_)
  have h := h t3 et3
  have lt3 : kdLe t2 t3 := kdLe.eq (by rw [et3]; rfl)
  refine gc_sub [2, 3, 1, 0] rfl ?_
  obtain ⟨n14, h⟩ := h
  have k14 : ∀ (n14 : Nat) (z14 : Int32 × Int32 × CS), kdLe t3 z14.2.2 → lp (w_X3_takeLeastPages_L14 a0 a1 Q) n14 z14 → GC p l e (rmC 1 B t) s m args below meth c 6 D K E0 B A0 (gc_Q below D K E0 A0 (qV Q) X args s t (rmC 1 B t)) z14.2.2 14 [(0, .ref a0), (1, .int a1), (2, .int z14.1), (3, .int z14.2.1)] [] := by
    intro n14
    induction n14 with
    | zero => intro z14 lz14 h; exact h.elim
    | succ n14 ih14 =>
      intro z14 lz14 h
      have h : w_X3_takeLeastPages_L14 a0 a1 Q (lp (w_X3_takeLeastPages_L14 a0 a1 Q) n14) z14 := h
      unfold w_X3_takeLeastPages_L14 at h
      refine gc_iloadn C 2 2 dX3_takeLeastPages_14 rfl rfl ?_
      refine gc_iloadn C 1 1 dX3_takeLeastPages_15 rfl rfl ?_
      have kt14 : ((a1 ≤ z14.1) ∨ (48 ≤ (fI z14.2.2 98 a0))) → GC p l e (rmC 1 B t) s m args below meth c 6 D K E0 B A0 (gc_Q below D K E0 A0 (qV Q) X args s t (rmC 1 B t)) z14.2.2 144 [(0, .ref a0), (1, .int a1), (2, .int z14.1), (3, .int z14.2.1)] [] := by
        intro hc
        have h := h.1 hc
        exact gc_vret C E (kdLe.tr lt2 (kdLe.tr lt3 lz14)) dX3_takeLeastPages_144 ⟨rfl, h⟩
      have kf14 : ¬ ((a1 ≤ z14.1) ∨ (48 ≤ (fI z14.2.2 98 a0))) → GC p l e (rmC 1 B t) s m args below meth c 6 D K E0 B A0 (gc_Q below D K E0 A0 (qV Q) X args s t (rmC 1 B t)) z14.2.2 28 [(0, .ref a0), (1, .int a1), (2, .int z14.1), (3, .int z14.2.1)] [] := by
        intro hc
        have h := h.2 hc
        refine gc_aloadn C 0 0 dX3_takeLeastPages_28 rfl rfl ?_
        refine gc_getI C BX3 98 2 (by decide) rfl ft_98 vf_X3_69 rfl (isC_of (kdLe.k (kdLe.tr lt2 (kdLe.tr lt3 lz14)) g1 (by decide) (by decide)) (by decide)) dX3_takeLeastPages_29 ?_
        refine gc_iconst C 2 dX3_takeLeastPages_32 (by decide) ?_
        refine gc_irem C dX3_takeLeastPages_33 (by decide) ?_
        refine gc_nameI (fun x4 ex4 => ?_)
        have h := h x4 ex4
        refine gc_istore C [(4, .int x4), (0, .ref a0), (1, .int a1), (2, .int z14.1), (3, .int z14.2.1)] dX3_takeLeastPages_34 (by decide) rfl ?_
        refine gc_aloadn C 1 0 dX3_takeLeastPages_36 rfl rfl ?_
        refine gc_getE C BX3 106 10 (by decide) rfl fe_106 vf_X3_37 rfl (kdLe.k (kdLe.tr lt2 (kdLe.tr lt3 lz14)) g1 (by decide) (by decide)) dX3_takeLeastPages_37 ?_
        refine gc_iloadn C 3 2 dX3_takeLeastPages_40 rfl rfl ?_
        refine gc_iload C 0 dX3_takeLeastPages_41 rfl ?_
        refine gc_iloadn C 4 3 dX3_takeLeastPages_43 rfl rfl ?_
        refine gc_callS C (y := yX3_state) (as := [.int z14.1, .int x4, .int z14.2.1]) rfl (by decide) (by decide) (c_X3_state l D K E0 B A0 z14.1 x4 z14.2.1 z14.2.2) hk_X3_state rfl vl_X3_47 kc_X3_state dX3_takeLeastPages_44 (Nat.le_of_ble_eq_true rfl) (fun _ _ h => h.elim) (qkIP ?_)
        obtain ⟨g5, h⟩ := h
        refine gc_iald C (ci := 6) (k0 := 10) 106 (by decide) (by decide) (by decide) rfl ft_106 (by decide) (kdLe.k (kdLe.tr lt2 (kdLe.tr lt3 lz14)) g1 (by decide) (by decide)) g5 dX3_takeLeastPages_47 ?_
        refine gc_nameI (fun x6 ex6 => ?_)
        have h := h x6 ex6
        refine gc_istore C [(5, .int x6), (4, .int x4), (0, .ref a0), (1, .int a1), (2, .int z14.1), (3, .int z14.2.1)] dX3_takeLeastPages_48 (by decide) rfl ?_
        refine gc_iload C 0 dX3_takeLeastPages_50 rfl ?_
        obtain ⟨J94, hJ94, h⟩ := h
        have k94 : ∀ t7 : CS, kdLe z14.2.2 t7 → J94 t7 → GC p l e (rmC 1 B t) s m args below meth c 6 D K E0 B A0 (gc_Q below D K E0 A0 (qV Q) X args s t (rmC 1 B t)) t7 94 [(0, .ref a0), (1, .int a1), (2, .int z14.1), (5, .int x6)] [] := by
          intro t7 lt7 h
          have h := hJ94 t7 h
          refine gc_aloadn C 0 0 dX3_takeLeastPages_94 rfl rfl ?_
          refine gc_getE C BX3 96 0 (by decide) rfl fe_96 vf_X3_11 rfl (kdLe.k (kdLe.tr lt2 (kdLe.tr lt3 (kdLe.tr lz14 lt7))) g1 (by decide) (by decide)) dX3_takeLeastPages_95 ?_
          refine gc_aloadn C 0 0 dX3_takeLeastPages_98 rfl rfl ?_
          refine gc_getI C BX3 98 2 (by decide) rfl ft_98 vf_X3_69 rfl (isC_of (kdLe.k (kdLe.tr lt2 (kdLe.tr lt3 (kdLe.tr lz14 lt7))) g1 (by decide) (by decide)) (by decide)) dX3_takeLeastPages_99 ?_
          refine gc_iload C 3 dX3_takeLeastPages_102 rfl ?_
          obtain ⟨g8, h⟩ := h
          refine gc_iast C (ci := 6) (k0 := 0) 96 (by decide) (by decide) (by decide) rfl ft_96 (by decide) (kdLe.k (kdLe.tr lt2 (kdLe.tr lt3 (kdLe.tr lz14 lt7))) g1 (by decide) (by decide)) g8 dX3_takeLeastPages_104 ?_
          refine gc_nameS (fun t9 et9 => ?_)
          have h := h t9 et9
          have lt9 : kdLe t7 t9 := kdLe.eq (by rw [et9]; rfl)
          refine gc_aloadn C 0 0 dX3_takeLeastPages_105 rfl rfl ?_
          refine gc_getE C BX3 97 1 (by decide) rfl fe_97 vf_X3_15 rfl (kdLe.k (kdLe.tr lt2 (kdLe.tr lt3 (kdLe.tr lz14 (kdLe.tr lt7 lt9)))) g1 (by decide) (by decide)) dX3_takeLeastPages_106 ?_
          refine gc_aloadn C 0 0 dX3_takeLeastPages_109 rfl rfl ?_
          refine gc_getI C BX3 98 2 (by decide) rfl ft_98 vf_X3_69 rfl (isC_of (kdLe.k (kdLe.tr lt2 (kdLe.tr lt3 (kdLe.tr lz14 (kdLe.tr lt7 lt9)))) g1 (by decide) (by decide)) (by decide)) dX3_takeLeastPages_110 ?_
          refine gc_iloadn C 2 2 dX3_takeLeastPages_113 rfl rfl ?_
          obtain ⟨g10, h⟩ := h
          refine gc_iast C (ci := 6) (k0 := 1) 97 (by decide) (by decide) (by decide) rfl ft_97 (by decide) (kdLe.k (kdLe.tr lt2 (kdLe.tr lt3 (kdLe.tr lz14 (kdLe.tr lt7 lt9)))) g1 (by decide) (by decide)) g10 dX3_takeLeastPages_114 ?_
          refine gc_nameS (fun t11 et11 => ?_)
          have h := h t11 et11
          have lt11 : kdLe t9 t11 := kdLe.eq (by rw [et11]; rfl)
          refine gc_aloadn C 0 0 dX3_takeLeastPages_115 rfl rfl ?_
          refine gc_dup C dX3_takeLeastPages_116 rfl ?_
          refine gc_getI C BX3 98 2 (by decide) rfl ft_98 vf_X3_69 rfl (isC_of (kdLe.k (kdLe.tr lt2 (kdLe.tr lt3 (kdLe.tr lz14 (kdLe.tr lt7 (kdLe.tr lt9 lt11))))) g1 (by decide) (by decide)) (by decide)) dX3_takeLeastPages_117 ?_
          refine gc_iconst C 1 dX3_takeLeastPages_120 (by decide) ?_
          refine gc_iadd C dX3_takeLeastPages_121 ?_
          refine gc_putI C BX3 98 2 (by decide) rfl .int ft_98 vf_X3_69 rfl rfl (by decide +kernel) rfl rfl (isC_of (kdLe.k (kdLe.tr lt2 (kdLe.tr lt3 (kdLe.tr lz14 (kdLe.tr lt7 (kdLe.tr lt9 lt11))))) g1 (by decide) (by decide)) (by decide)) dX3_takeLeastPages_122 ?_
          refine gc_nameS (fun t12 et12 => ?_)
          have h := h t12 et12
          have lt12 : kdLe t11 t12 := kdLe.eq (by rw [et12]; rfl)
          refine gc_iloadn C 2 2 dX3_takeLeastPages_125 rfl rfl ?_
          refine gc_iload C 3 dX3_takeLeastPages_126 rfl ?_
          refine gc_iadd C dX3_takeLeastPages_128 ?_
          refine gc_nameI (fun x13 ex13 => ?_)
          have h := h x13 ex13
          refine gc_istoren C 2 [(2, .int x13), (0, .ref a0), (1, .int a1), (5, .int x6)] dX3_takeLeastPages_129 rfl (by decide) rfl ?_
          refine gc_iload C 3 dX3_takeLeastPages_130 rfl ?_
          have k140 : ∀ x14 : Int32, x14 = (if x6 = 0 then 1 else 0) → GC p l e (rmC 1 B t) s m args below meth c 6 D K E0 B A0 (gc_Q below D K E0 A0 (qV Q) X args s t (rmC 1 B t)) t12 140 [(0, .ref a0), (1, .int a1), (2, .int x13)] [.int x14] := by
            intro x14 ex14
            have h := h x14 ex14
            refine gc_istoren C 3 [(3, .int x14), (0, .ref a0), (1, .int a1), (2, .int x13)] dX3_takeLeastPages_140 rfl (by decide) rfl ?_
            refine gc_goto C 14 dX3_takeLeastPages_141 (by decide) ?_
            refine gc_sub [1, 2, 3, 0] rfl ?_
            have h9 := ih14 (x13, x14, t12) (kdLe.tr lz14 (kdLe.tr lt7 (kdLe.tr lt9 (kdLe.tr lt11 lt12)))) h
            exact h9
          refine gc_if_ne C 139 dX3_takeLeastPages_132 (by decide) (fun c132_3 => ?_) (fun c132_3 => ?_)
          · refine gc_iconst C 0 dX3_takeLeastPages_139 (by decide) ?_
            refine gc_sub [1, 2, 0] rfl ?_
            exact k140 _ ((if_neg c132_3).symm)
          · refine gc_iconst C 1 dX3_takeLeastPages_135 (by decide) ?_
            refine gc_goto C 140 dX3_takeLeastPages_136 (by decide) ?_
            refine gc_sub [1, 2, 0] rfl ?_
            exact k140 _ ((if_pos c132_3).symm)
        have kt28 : ((x6 ≤ 0) ∨ (((v_X3_hasTurn z14.1 x4 z14.2.1) = 0) ∨ (24 ≤ (fI z14.2.2 100 a0)))) → GC p l e (rmC 1 B t) s m args below meth c 6 D K E0 B A0 (gc_Q below D K E0 A0 (qV Q) X args s t (rmC 1 B t)) z14.2.2 94 [(5, .int x6), (4, .int x4), (0, .ref a0), (1, .int a1), (2, .int z14.1), (3, .int z14.2.1)] [] := by
          intro hc
          have h := h.1 hc
          refine gc_sub [2, 3, 4, 0] rfl ?_
          exact k94 z14.2.2 (kdLe.rf _) h
        have kf28 : ¬ ((x6 ≤ 0) ∨ (((v_X3_hasTurn z14.1 x4 z14.2.1) = 0) ∨ (24 ≤ (fI z14.2.2 100 a0)))) → GC p l e (rmC 1 B t) s m args below meth c 6 D K E0 B A0 (gc_Q below D K E0 A0 (qV Q) X args s t (rmC 1 B t)) z14.2.2 74 [(5, .int x6), (4, .int x4), (0, .ref a0), (1, .int a1), (2, .int z14.1), (3, .int z14.2.1)] [] := by
          intro hc
          have h := h.2 hc
          refine gc_aloadn C 2 0 dX3_takeLeastPages_74 rfl rfl ?_
          refine gc_getE C BX3 99 3 (by decide) rfl fe_99 vf_X3_18 rfl (kdLe.k (kdLe.tr lt2 (kdLe.tr lt3 lz14)) g1 (by decide) (by decide)) dX3_takeLeastPages_75 ?_
          refine gc_aloadn C 2 0 dX3_takeLeastPages_78 rfl rfl ?_
          refine gc_getI C BX3 100 4 (by decide) rfl ft_100 vf_X3_73 rfl (isC_of (kdLe.k (kdLe.tr lt2 (kdLe.tr lt3 lz14)) g1 (by decide) (by decide)) (by decide)) dX3_takeLeastPages_79 ?_
          refine gc_iloadn C 4 2 dX3_takeLeastPages_82 rfl rfl ?_
          obtain ⟨g15, h⟩ := h
          refine gc_iast C (ci := 6) (k0 := 3) 99 (by decide) (by decide) (by decide) rfl ft_99 (by decide) (kdLe.k (kdLe.tr lt2 (kdLe.tr lt3 lz14)) g1 (by decide) (by decide)) g15 dX3_takeLeastPages_83 ?_
          refine gc_nameS (fun t16 et16 => ?_)
          have h := h t16 et16
          have lt16 : kdLe z14.2.2 t16 := kdLe.eq (by rw [et16]; rfl)
          refine gc_aloadn C 2 0 dX3_takeLeastPages_84 rfl rfl ?_
          refine gc_dup C dX3_takeLeastPages_85 rfl ?_
          refine gc_getI C BX3 100 4 (by decide) rfl ft_100 vf_X3_73 rfl (isC_of (kdLe.k (kdLe.tr lt2 (kdLe.tr lt3 (kdLe.tr lz14 lt16))) g1 (by decide) (by decide)) (by decide)) dX3_takeLeastPages_86 ?_
          refine gc_iconst C 1 dX3_takeLeastPages_89 (by decide) ?_
          refine gc_iadd C dX3_takeLeastPages_90 ?_
          refine gc_putI C BX3 100 4 (by decide) rfl .int ft_100 vf_X3_73 rfl rfl (by decide +kernel) rfl rfl (isC_of (kdLe.k (kdLe.tr lt2 (kdLe.tr lt3 (kdLe.tr lz14 lt16))) g1 (by decide) (by decide)) (by decide)) dX3_takeLeastPages_91 ?_
          refine gc_nameS (fun t17 et17 => ?_)
          have h := h t17 et17
          have lt17 : kdLe t16 t17 := kdLe.eq (by rw [et17]; rfl)
          refine gc_sub [2, 3, 4, 0] rfl ?_
          exact k94 t17 (kdLe.tr lt16 lt17) h
        refine gc_if_le C 94 dX3_takeLeastPages_52 (by decide) (fun c52_4 => ?_) (fun c52_4 => ?_)
        · exact kt28 (Or.inl c52_4)
        · refine gc_iloadn C 4 2 dX3_takeLeastPages_55 rfl rfl ?_
          refine gc_iload C 1 dX3_takeLeastPages_56 rfl ?_
          refine gc_iloadn C 5 3 dX3_takeLeastPages_58 rfl rfl ?_
          refine gc_callS C (y := yX3_hasTurn) (as := [.int z14.1, .int x4, .int z14.2.1]) rfl (by decide) (by decide) (c_X3_hasTurn l D K E0 B A0 z14.1 x4 z14.2.1 z14.2.2) hk_X3_hasTurn rfl vl_X3_59 kc_X3_hasTurn dX3_takeLeastPages_59 (Nat.le_of_ble_eq_true rfl) (fun _ _ h => h.elim) (qkIP ?_)
          refine gc_if_eq C 94 dX3_takeLeastPages_62 (by decide) (fun c62_5 => ?_) (fun c62_5 => ?_)
          · exact kt28 (Or.inr (Or.inl c62_5))
          · refine gc_aloadn C 2 0 dX3_takeLeastPages_65 rfl rfl ?_
            refine gc_getI C BX3 100 4 (by decide) rfl ft_100 vf_X3_73 rfl (isC_of (kdLe.k (kdLe.tr lt2 (kdLe.tr lt3 lz14)) g1 (by decide) (by decide)) (by decide)) dX3_takeLeastPages_66 ?_
            refine gc_bipush C 24 dX3_takeLeastPages_69 (by decide) ?_
            refine gc_icmp_ge C 94 dX3_takeLeastPages_71 (by decide) (fun c71_6 => ?_) (fun c71_6 => ?_)
            · exact kt28 (Or.inr (Or.inr c71_6))
            · exact kf28 (fun q0 => Or.elim q0 c52_4 (fun q1 => Or.elim q1 c62_5 c71_6))
      refine gc_icmp_ge C 144 dX3_takeLeastPages_16 (by decide) (fun c16_1 => ?_) (fun c16_1 => ?_)
      · exact kt14 (Or.inl c16_1)
      · refine gc_aloadn C 0 0 dX3_takeLeastPages_19 rfl rfl ?_
        refine gc_getI C BX3 98 2 (by decide) rfl ft_98 vf_X3_69 rfl (isC_of (kdLe.k (kdLe.tr lt2 (kdLe.tr lt3 lz14)) g1 (by decide) (by decide)) (by decide)) dX3_takeLeastPages_20 ?_
        refine gc_bipush C 48 dX3_takeLeastPages_23 (by decide) ?_
        refine gc_icmp_ge C 144 dX3_takeLeastPages_25 (by decide) (fun c25_2 => ?_) (fun c25_2 => ?_)
        · exact kt14 (Or.inr c25_2)
        · exact kf14 (fun q0 => Or.elim q0 c16_1 c25_2)
  exact k14 n14 (0, 0, t3) (kdLe.rf _) h
