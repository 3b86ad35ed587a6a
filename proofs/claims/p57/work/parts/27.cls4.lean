/-! THE CLASS, METHOD BY METHOD (4) -/
def w_X9_repeatTo_L2 (a0 : Nat) (a1 : Int32) (t : CS) (Q : Int32 → CS → Prop) (K2 : Int32 → Prop) (z2 : Int32) : Prop := (kdC t a0 = 12) ∧ (((nI (fL t 194 a0).length) ≤ z2) → Q (-1) t) ∧ (¬ ((nI (fL t 194 a0).length) ≤ z2) → (lIn t 194 a0 z2) ∧ (kdC t (lG t 194 a0 z2) = 10) ∧ (((fI t 161 (lG t 194 a0 z2)) = a1) → Q z2 t) ∧ (¬ ((fI t 161 (lG t 194 a0 z2)) = a1) → K2 (z2 + 1)))
def w_X9_repeatTo (B : Nat × Nat) (a0 : Nat) (a1 : Int32) (t : CS) (Q : Int32 → CS → Prop) (X : String → CS → Prop) : Prop := ∃ n, lp (w_X9_repeatTo_L2 a0 a1 t Q) n 0
set_option maxRecDepth 20000 in
set_option maxHeartbeats 2000000 in
theorem c_X9_repeatTo (l : Launch) (D : va_G) (K : Nat → ClassId) (E0 : Nat) (B : Nat × Nat) (A0 : Nat → Prop) (a0 : Nat) (a1 : Int32) (t : CS) (Q : Int32 → CS → Prop) (X : String → CS → Prop) (h : w_X9_repeatTo B a0 a1 t Q X) : MetC l yX9_repeatTo cX9_repeatTo 3 (some .int) 3 [.ref a0, .int a1] (qI Q) X D K E0 B A0 t := by
  unfold w_X9_repeatTo at h
  refine gc_start (by decide) rfl (Nat.le_of_ble_eq_true rfl) (fun p e s m args below meth c C E => ?_)
  refine gc_iconst C 0 dX9_repeatTo_0 (by decide) ?_
  refine gc_istoren C 2 [(2, .int 0), (0, .ref a0), (1, .int a1)] dX9_repeatTo_1 rfl (by decide) rfl ?_
  refine gc_sub [1, 2, 0] rfl ?_
  obtain ⟨n2, h⟩ := h
  have k2 : ∀ (n2 : Nat) (z2 : Int32), lp (w_X9_repeatTo_L2 a0 a1 t Q) n2 z2 → GC p l e (rmC 3 B t) s m args below meth c 3 D K E0 B A0 (gc_Q below D K E0 A0 (qI Q) X args s t (rmC 3 B t)) t 2 [(0, .ref a0), (1, .int a1), (2, .int z2)] [] := by
    intro n2
    induction n2 with
    | zero => intro z2 h; exact h.elim
    | succ n2 ih2 =>
      intro z2 h
      have h : w_X9_repeatTo_L2 a0 a1 t Q (lp (w_X9_repeatTo_L2 a0 a1 t Q) n2) z2 := h
      unfold w_X9_repeatTo_L2 at h
      refine gc_iloadn C 2 2 dX9_repeatTo_2 rfl rfl ?_
      refine gc_aloadn C 0 0 dX9_repeatTo_3 rfl rfl ?_
      obtain ⟨g1, h⟩ := h
      refine gc_getE C BX9 194 2 (by decide) rfl fe_194 vf_X9_21 rfl g1 dX9_repeatTo_4 ?_
      refine gc_lsSize C (ci := 12) (k0 := 2) 194 (by decide) (by decide) (by decide) rfl ft_194 rfl (by decide) g1 vj_X9_38 dX9_repeatTo_7 (Nat.le_of_ble_eq_true rfl) ?_
      refine gc_icmp_ge C 39 dX9_repeatTo_10 (by decide) (fun c10_1 => ?_) (fun c10_1 => ?_)
      · have h := h.1 c10_1
        refine gc_iconst C (-1) dX9_repeatTo_39 (by decide) ?_
        exact gc_iret C E (kdLe.rf _) dX9_repeatTo_40 ⟨_, rfl, h⟩
      · have h := h.2 c10_1
        refine gc_aloadn C 0 0 dX9_repeatTo_13 rfl rfl ?_
        refine gc_getE C BX9 194 2 (by decide) rfl fe_194 vf_X9_21 rfl g1 dX9_repeatTo_14 ?_
        refine gc_iloadn C 2 2 dX9_repeatTo_17 rfl rfl ?_
        obtain ⟨g2, h⟩ := h
        refine gc_lsGet C (ci := 12) (k0 := 2) 194 (by decide) (by decide) (by decide) rfl ft_194 rfl (by decide) g1 g2 vj_X9_42 dX9_repeatTo_18 (Nat.le_of_ble_eq_true rfl) ?_
        obtain ⟨g3, h⟩ := h
        refine gc_cast C BX7 v_i276 (isC_of g3 (by decide)) dX9_repeatTo_21 ?_
        refine gc_getI C BX7 161 1 (by decide) rfl ft_161 vf_X9_128 rfl (isC_of g3 (by decide)) dX9_repeatTo_24 ?_
        refine gc_iloadn C 1 1 dX9_repeatTo_27 rfl rfl ?_
        refine gc_icmp_ne C 33 dX9_repeatTo_28 (by decide) (fun c28_2 => ?_) (fun c28_2 => ?_)
        · have h := h.2 c28_2
          refine gc_iinc C 2 (z2 + 1) [(2, .int (z2 + 1)), (0, .ref a0), (1, .int a1)] dX9_repeatTo_33 rfl rfl (by decide) rfl ?_
          refine gc_goto C 2 dX9_repeatTo_36 (by decide) ?_
          refine gc_sub [1, 2, 0] rfl ?_
          have h9 := ih2 (z2 + 1) h
          exact h9
        · have h := h.1 c28_2
          refine gc_iloadn C 2 2 dX9_repeatTo_31 rfl rfl ?_
          exact gc_iret C E (kdLe.rf _) dX9_repeatTo_32 ⟨_, rfl, h⟩
  exact k2 n2 0 h
def v_X7_lastAgain (a0 : Nat) (t : CS) : Int32 := ((fI t 161 a0) - (fI t 162 a0))
def d_X7_lastAgain (a0 : Nat) (t : CS) : Prop := (kdC t a0 = 10)
set_option maxRecDepth 20000 in
theorem c_X7_lastAgain (l : Launch) (D : va_G) (K : Nat → ClassId) (E0 : Nat) (B : Nat × Nat) (A0 : Nat → Prop) (a0 : Nat) (t : CS) (h : d_X7_lastAgain a0 t) : MetC l yX7_lastAgain cX7_lastAgain 1 (some .int) 0 [.ref a0] (qI (fun r t' => (v_X7_lastAgain a0 t) = r ∧ t = t')) (fun _ _ => False) D K E0 B A0 t := by
  have u1 := h
  refine gc_start (by decide) rfl (Nat.le_of_ble_eq_true rfl) (fun p e s m args below meth c C E => ?_)
  refine gc_aloadn C 0 0 dX7_lastAgain_0 rfl rfl ?_
  refine gc_getI C BX7 161 1 (by decide) rfl ft_161 vf_X7_13 rfl (isC_of u1 (by decide)) dX7_lastAgain_1 ?_
  refine gc_aloadn C 0 0 dX7_lastAgain_4 rfl rfl ?_
  refine gc_getI C BX7 162 2 (by decide) rfl ft_162 vf_X7_16 rfl (isC_of u1 (by decide)) dX7_lastAgain_5 ?_
  refine gc_isub C dX7_lastAgain_8 ?_
  exact gc_iret C E (kdLe.rf _) dX7_lastAgain_9 ⟨_, rfl, (rfl), rfl⟩
def w_X6_layPlaces_L57 (B : Nat × Nat) (a0 : Nat) (a1 : Nat) (X : String → CS → Prop) (r7 : Int32) (t7 : CS) (J80 : CS → Prop) (K57 : (Int32 × CS) → Prop) (z57 : Int32 × CS) : Prop := (d_X7_lastAgain (lG t7 194 a1 r7) z57.2) ∧ (((v_X7_lastAgain (lG t7 194 a1 r7) z57.2) < z57.1) → J80 z57.2) ∧ (¬ ((v_X7_lastAgain (lG t7 194 a1 r7) z57.2) < z57.1) → w_X6_addPlace B a0 a1 z57.1 z57.2 (fun t13 => K57 ((z57.1 + 1), t13)) X)
def w_X6_layPlaces_L12 (B : Nat × Nat) (a0 : Nat) (a1 : Nat) (Q : CS → Prop) (X : String → CS → Prop) (K12 : (Int32 × CS) → Prop) (z12 : Int32 × CS) : Prop := (kdC z12.2 a1 = 12) ∧ (d_X9_barCount a1 z12.2) ∧ (((v_X9_barCount a1 z12.2) ≤ z12.1) → Q z12.2) ∧ (¬ ((v_X9_barCount a1 z12.2) ≤ z12.1) → w_X6_addPlace B a0 a1 z12.1 z12.2 (fun t6 => w_X9_repeatTo B a1 z12.1 t6 (fun r7 t7 => ∃ J80 : CS → Prop, (∀ t8 : CS, J80 t8 → (K12 ((z12.1 + 1), t8))) ∧ (((r7 = (-1)) → J80 t7) ∧ (¬ (r7 = (-1)) → (lIn t7 194 a1 r7) ∧ (kdC t7 (lG t7 194 a1 r7) = 10) ∧ ∀ x11 : Int32, x11 = (fI t7 160 (lG t7 194 a1 r7)) → ∃ n, lp (w_X6_layPlaces_L57 B a0 a1 X r7 t7 J80) n (x11, t7)))) X) X)
def w_X6_layPlaces (B : Nat × Nat) (a0 : Nat) (a1 : Nat) (t : CS) (Q : CS → Prop) (X : String → CS → Prop) : Prop := (kdC t a0 = 9) ∧ ∀ t2 : CS, t2 = usI t 146 a0 0 → ∀ t3 : CS, t3 = usI t2 147 a0 0 → ∃ n, lp (w_X6_layPlaces_L12 B a0 a1 Q X) n (0, t3)
set_option maxRecDepth 20000 in
set_option maxHeartbeats 2000000 in
theorem c_X6_layPlaces (l : Launch) (D : va_G) (K : Nat → ClassId) (E0 : Nat) (B : Nat × Nat) (A0 : Nat → Prop) (a0 : Nat) (a1 : Nat) (t : CS) (Q : CS → Prop) (X : String → CS → Prop) (h : w_X6_layPlaces B a0 a1 t Q X) : MetC l yX6_layPlaces cX6_layPlaces 6 none 6 [.ref a0, .ref a1] (qV Q) X D K E0 B A0 t := by
  unfold w_X6_layPlaces at h
  refine gc_start (by decide) rfl (Nat.le_of_ble_eq_true rfl) (fun p e s m args below meth c C E => ?_)
  refine gc_aloadn C 0 0 dX6_layPlaces_0 rfl rfl ?_
  refine gc_iconst C 0 dX6_layPlaces_1 (by decide) ?_
  obtain ⟨g1, h⟩ := h
  refine gc_putI C BX6 146 2 (by decide) rfl .int ft_146 vf_X6_54 rfl rfl (by decide +kernel) rfl rfl (isC_of g1 (by decide)) dX6_layPlaces_2 ?_
  refine gc_nameS (fun t2 et2 => ?_)
  have h := h t2 et2
  have lt2 : kdLe t t2 := kdLe.eq (by rw [et2]; rfl)
  refine gc_aloadn C 0 0 dX6_layPlaces_5 rfl rfl ?_
  refine gc_iconst C 0 dX6_layPlaces_6 (by decide) ?_
  refine gc_putI C BX6 147 3 (by decide) rfl .int ft_147 vf_X6_61 rfl rfl (by decide +kernel) rfl rfl (isC_of (kdLe.k lt2 g1 (by decide) (by decide)) (by decide)) dX6_layPlaces_7 ?_
  refine gc_nameS (fun t3 et3 => ?_)
  have h := h t3 et3
  have lt3 : kdLe t2 t3 := kdLe.eq (by rw [et3]; rfl)
  refine gc_iconst C 0 dX6_layPlaces_10 (by decide) ?_
  refine gc_istoren C 2 [(2, .int 0), (0, .ref a0), (1, .ref a1)] dX6_layPlaces_11 rfl (by decide) rfl ?_
  refine gc_sub [1, 2, 0] rfl ?_
  obtain ⟨n12, h⟩ := h
  have k12 : ∀ (n12 : Nat) (z12 : Int32 × CS), kdLe t3 z12.2 → lp (w_X6_layPlaces_L12 B a0 a1 Q X) n12 z12 → GC p l e (rmC 6 B t) s m args below meth c 6 D K E0 B A0 (gc_Q below D K E0 A0 (qV Q) X args s t (rmC 6 B t)) z12.2 12 [(0, .ref a0), (1, .ref a1), (2, .int z12.1)] [] := by
    intro n12
    induction n12 with
    | zero => intro z12 lz12 h; exact h.elim
    | succ n12 ih12 =>
      intro z12 lz12 h
      have h : w_X6_layPlaces_L12 B a0 a1 Q X (lp (w_X6_layPlaces_L12 B a0 a1 Q X) n12) z12 := h
      unfold w_X6_layPlaces_L12 at h
      refine gc_iloadn C 2 2 dX6_layPlaces_12 rfl rfl ?_
      refine gc_aloadn C 1 1 dX6_layPlaces_13 rfl rfl ?_
      obtain ⟨g4, h⟩ := h
      obtain ⟨g5, h⟩ := h
      refine gc_callV C BX9 (y := yX9_barCount) (as := []) rfl (by decide) (by decide) (c_X9_barCount l D K E0 B A0 a1 z12.2 g5) hk_X9_barCount rfl vl_X6_64 kc_X9_barCount (isC_of g4 (by decide)) dX6_layPlaces_14 (Nat.le_of_ble_eq_true rfl) (fun _ _ h => h.elim) (qkIP ?_)
      refine gc_icmp_ge C 86 dX6_layPlaces_17 (by decide) (fun c17_1 => ?_) (fun c17_1 => ?_)
      · have h := h.1 c17_1
        exact gc_vret C E (kdLe.tr lt2 (kdLe.tr lt3 lz12)) dX6_layPlaces_86 ⟨rfl, h⟩
      · have h := h.2 c17_1
        refine gc_aloadn C 0 0 dX6_layPlaces_20 rfl rfl ?_
        refine gc_aloadn C 1 1 dX6_layPlaces_21 rfl rfl ?_
        refine gc_iloadn C 2 2 dX6_layPlaces_22 rfl rfl ?_
        refine gc_callV C BX6 (y := yX6_addPlace) (as := [.ref a1, .int z12.1]) rfl (by decide) (by decide) (c_X6_addPlace l D K E0 B A0 a0 a1 z12.1 z12.2 _ X h) hk_X6_addPlace rfl vl_X6_68 kc_X6_addPlace (isC_of (kdLe.k (kdLe.tr lt2 (kdLe.tr lt3 lz12)) g1 (by decide) (by decide)) (by decide)) dX6_layPlaces_23 (Nat.le_of_ble_eq_true rfl) (fun _ _ h => h) (qkV (fun t6 h lt6 => ?_))
        refine gc_aloadn C 1 1 dX6_layPlaces_26 rfl rfl ?_
        refine gc_iloadn C 2 2 dX6_layPlaces_27 rfl rfl ?_
        refine gc_callV C BX9 (y := yX9_repeatTo) (as := [.int z12.1]) rfl (by decide) (by decide) (c_X9_repeatTo l D K E0 B A0 a1 z12.1 t6 _ X h) hk_X9_repeatTo rfl vl_X6_71 kc_X9_repeatTo (isC_of (kdLe.k lt6 g4 (by decide) (by decide)) (by decide)) dX6_layPlaces_28 (Nat.le_of_ble_eq_true rfl) (fun _ _ h => h) (qkI (fun r7 t7 h lt7 => ?_))
        refine gc_istoren C 3 [(3, .int r7), (0, .ref a0), (1, .ref a1), (2, .int z12.1)] dX6_layPlaces_31 rfl (by decide) rfl ?_
        refine gc_iloadn C 0 3 dX6_layPlaces_32 rfl rfl ?_
        refine gc_iconst C (-1) dX6_layPlaces_33 (by decide) ?_
        obtain ⟨J80, hJ80, h⟩ := h
        have k80 : ∀ t8 : CS, kdLe t7 t8 → J80 t8 → GC p l e (rmC 6 B t) s m args below meth c 6 D K E0 B A0 (gc_Q below D K E0 A0 (qV Q) X args s t (rmC 6 B t)) t8 80 [(0, .ref a0), (1, .ref a1), (2, .int z12.1)] [] := by
          intro t8 lt8 h
          have h := hJ80 t8 h
          refine gc_iinc C 2 (z12.1 + 1) [(2, .int (z12.1 + 1)), (0, .ref a0), (1, .ref a1)] dX6_layPlaces_80 rfl rfl (by decide) rfl ?_
          refine gc_goto C 12 dX6_layPlaces_83 (by decide) ?_
          refine gc_sub [1, 2, 0] rfl ?_
          have h9 := ih12 ((z12.1 + 1), t8) (kdLe.tr lz12 (kdLe.tr lt6 (kdLe.tr lt7 lt8))) h
          exact h9
        refine gc_icmp_eq C 80 dX6_layPlaces_34 (by decide) (fun c34_2 => ?_) (fun c34_2 => ?_)
        · have h := h.1 c34_2
          refine gc_sub [1, 2, 3] rfl ?_
          exact k80 t7 (kdLe.rf _) h
        · have h := h.2 c34_2
          refine gc_aloadn C 2 1 dX6_layPlaces_37 rfl rfl ?_
          refine gc_getE C BX9 194 2 (by decide) rfl fe_194 vf_X6_75 rfl (kdLe.k (kdLe.tr lt6 lt7) g4 (by decide) (by decide)) dX6_layPlaces_38 ?_
          refine gc_iloadn C 0 3 dX6_layPlaces_41 rfl rfl ?_
          obtain ⟨g9, h⟩ := h
          refine gc_lsGet C (ci := 12) (k0 := 2) 194 (by decide) (by decide) (by decide) rfl ft_194 rfl (by decide) (kdLe.k (kdLe.tr lt6 lt7) g4 (by decide) (by decide)) g9 vj_X6_78 dX6_layPlaces_42 (Nat.le_of_ble_eq_true rfl) ?_
          obtain ⟨g10, h⟩ := h
          refine gc_cast C BX7 v_i278 (isC_of g10 (by decide)) dX6_layPlaces_45 ?_
          refine gc_astore C [(4, .ref (lG t7 194 a1 r7)), (3, .int r7), (0, .ref a0), (1, .ref a1), (2, .int z12.1)] dX6_layPlaces_48 (by decide) rfl ?_
          refine gc_aload C 0 dX6_layPlaces_50 rfl ?_
          refine gc_getI C BX7 160 0 (by decide) rfl ft_160 vf_X6_84 rfl (isC_of g10 (by decide)) dX6_layPlaces_52 ?_
          refine gc_nameI (fun x11 ex11 => ?_)
          have h := h x11 ex11
          refine gc_istore C [(5, .int x11), (4, .ref (lG t7 194 a1 r7)), (3, .int r7), (0, .ref a0), (1, .ref a1), (2, .int z12.1)] dX6_layPlaces_55 (by decide) rfl ?_
          refine gc_sub [3, 4, 5, 1, 0] rfl ?_
          obtain ⟨n57, h⟩ := h
          have k57 : ∀ (n57 : Nat) (z57 : Int32 × CS), kdLe t7 z57.2 → lp (w_X6_layPlaces_L57 B a0 a1 X r7 t7 J80) n57 z57 → GC p l e (rmC 6 B t) s m args below meth c 6 D K E0 B A0 (gc_Q below D K E0 A0 (qV Q) X args s t (rmC 6 B t)) z57.2 57 [(0, .ref a0), (1, .ref a1), (2, .int z12.1), (4, .ref (lG t7 194 a1 r7)), (5, .int z57.1)] [] := by
            intro n57
            induction n57 with
            | zero => intro z57 lz57 h; exact h.elim
            | succ n57 ih57 =>
              intro z57 lz57 h
              have h : w_X6_layPlaces_L57 B a0 a1 X r7 t7 J80 (lp (w_X6_layPlaces_L57 B a0 a1 X r7 t7 J80) n57) z57 := h
              unfold w_X6_layPlaces_L57 at h
              refine gc_iload C 4 dX6_layPlaces_57 rfl ?_
              refine gc_aload C 3 dX6_layPlaces_59 rfl ?_
              obtain ⟨g12, h⟩ := h
              refine gc_callV C BX7 (y := yX7_lastAgain) (as := []) rfl (by decide) (by decide) (c_X7_lastAgain l D K E0 B A0 (lG t7 194 a1 r7) z57.2 g12) hk_X7_lastAgain rfl vl_X6_87 kc_X7_lastAgain (isC_of (kdLe.k lz57 g10 (by decide) (by decide)) (by decide)) dX6_layPlaces_61 (Nat.le_of_ble_eq_true rfl) (fun _ _ h => h.elim) (qkIP ?_)
              refine gc_icmp_gt C 80 dX6_layPlaces_64 (by decide) (fun c64_3 => ?_) (fun c64_3 => ?_)
              · have h := h.1 c64_3
                refine gc_sub [0, 1, 2] rfl ?_
                exact k80 z57.2 lz57 h
              · have h := h.2 c64_3
                refine gc_aloadn C 0 0 dX6_layPlaces_67 rfl rfl ?_
                refine gc_aloadn C 1 1 dX6_layPlaces_68 rfl rfl ?_
                refine gc_iload C 4 dX6_layPlaces_69 rfl ?_
                refine gc_callV C BX6 (y := yX6_addPlace) (as := [.ref a1, .int z57.1]) rfl (by decide) (by decide) (c_X6_addPlace l D K E0 B A0 a0 a1 z57.1 z57.2 _ X h) hk_X6_addPlace rfl vl_X6_68 kc_X6_addPlace (isC_of (kdLe.k (kdLe.tr lt2 (kdLe.tr lt3 (kdLe.tr lz12 (kdLe.tr lt6 (kdLe.tr lt7 lz57))))) g1 (by decide) (by decide)) (by decide)) dX6_layPlaces_71 (Nat.le_of_ble_eq_true rfl) (fun _ _ h => h) (qkV (fun t13 h lt13 => ?_))
                refine gc_iinc C 4 (z57.1 + 1) [(5, .int (z57.1 + 1)), (0, .ref a0), (1, .ref a1), (2, .int z12.1), (4, .ref (lG t7 194 a1 r7))] dX6_layPlaces_74 rfl rfl (by decide) rfl ?_
                refine gc_goto C 57 dX6_layPlaces_77 (by decide) ?_
                refine gc_sub [1, 2, 3, 4, 0] rfl ?_
                have h9 := ih57 ((z57.1 + 1), t13) (kdLe.tr lz57 lt13) h
                exact h9
          exact k57 n57 (x11, t7) (kdLe.rf _) h
  exact k12 n12 (0, t3) (kdLe.rf _) h
def w_X9_spreadMarks_L33 (a0 : Nat) (z2 : Int32 × CS) (K11 : (Int32 × Int32 × CS) → Prop) (z11 : Int32 × Int32 × CS) (K33 : (Int32 × Int32 × CS) → Prop) (z33 : Int32 × Int32 × CS) : Prop := (kdC z33.2.2 (v_X9_row a0 z2.1 z11.2.1 z11.2.2) = 11) ∧ (d_X8_size (v_X9_row a0 z2.1 z11.2.1 z11.2.2) z33.2.2) ∧ (((v_X8_size (v_X9_row a0 z2.1 z11.2.1 z11.2.2) z33.2.2) ≤ z33.2.1) → K11 (z33.1, (z11.2.1 + 1), z33.2.2)) ∧ (¬ ((v_X8_size (v_X9_row a0 z2.1 z11.2.1 z11.2.2) z33.2.2) ≤ z33.2.1) → (d_X8_get (v_X9_row a0 z2.1 z11.2.1 z11.2.2) z33.2.1 z33.2.2) ∧ (kdC z33.2.2 (v_X8_get (v_X9_row a0 z2.1 z11.2.1 z11.2.2) z33.2.1 z33.2.2) = 3) ∧ ∀ x7 : Int32, x7 = (if (fI z33.2.2 52 (v_X8_get (v_X9_row a0 z2.1 z11.2.1 z11.2.2) z33.2.1 z33.2.2)) = (-1) then z33.1 else (fI z33.2.2 52 (v_X8_get (v_X9_row a0 z2.1 z11.2.1 z11.2.2) z33.2.1 z33.2.2))) → ∀ t8 : CS, t8 = usI z33.2.2 53 (v_X8_get (v_X9_row a0 z2.1 z11.2.1 z11.2.2) z33.2.1 z33.2.2) x7 → K33 (x7, (z33.2.1 + 1), t8))
def w_X9_spreadMarks_L11 (a0 : Nat) (K2 : (Int32 × CS) → Prop) (z2 : Int32 × CS) (K11 : (Int32 × Int32 × CS) → Prop) (z11 : Int32 × Int32 × CS) : Prop := (kdC z11.2.2 a0 = 12) ∧ (((nI (fL z11.2.2 192 a0).length) ≤ z11.2.1) → K2 ((z2.1 + 1), z11.2.2)) ∧ (¬ ((nI (fL z11.2.2 192 a0).length) ≤ z11.2.1) → (d_X9_row a0 z2.1 z11.2.1 z11.2.2) ∧ ∃ n, lp (w_X9_spreadMarks_L33 a0 z2 K11 z11) n (z11.1, 0, z11.2.2))
def w_X9_spreadMarks_L2 (a0 : Nat) (Q : CS → Prop) (K2 : (Int32 × CS) → Prop) (z2 : Int32 × CS) : Prop := ((4 ≤ z2.1) → Q z2.2) ∧ (¬ (4 ≤ z2.1) → ∃ n, lp (w_X9_spreadMarks_L11 a0 K2 z2) n (2, 0, z2.2))
def w_X9_spreadMarks (B : Nat × Nat) (a0 : Nat) (t : CS) (Q : CS → Prop) (X : String → CS → Prop) : Prop := ∃ n, lp (w_X9_spreadMarks_L2 a0 Q) n (0, t)
set_option maxRecDepth 20000 in
set_option maxHeartbeats 2000000 in
theorem c_X9_spreadMarks (l : Launch) (D : va_G) (K : Nat → ClassId) (E0 : Nat) (B : Nat × Nat) (A0 : Nat → Prop) (a0 : Nat) (t : CS) (Q : CS → Prop) (X : String → CS → Prop) (h : w_X9_spreadMarks B a0 t Q X) : MetC l yX9_spreadMarks cX9_spreadMarks 7 none 4 [.ref a0] (qV Q) X D K E0 B A0 t := by
  unfold w_X9_spreadMarks at h
  refine gc_start (by decide) rfl (Nat.le_of_ble_eq_true rfl) (fun p e s m args below meth c C E => ?_)
  refine gc_iconst C 0 dX9_spreadMarks_0 (by decide) ?_
  refine gc_istoren C 1 [(1, .int 0), (0, .ref a0)] dX9_spreadMarks_1 rfl (by decide) rfl ?_
  refine gc_sub [1, 0] rfl ?_
  obtain ⟨n2, h⟩ := h
  have k2 : ∀ (n2 : Nat) (z2 : Int32 × CS), kdLe t z2.2 → lp (w_X9_spreadMarks_L2 a0 Q) n2 z2 → GC p l e (rmC 4 B t) s m args below meth c 7 D K E0 B A0 (gc_Q below D K E0 A0 (qV Q) X args s t (rmC 4 B t)) z2.2 2 [(0, .ref a0), (1, .int z2.1)] [] := by
    intro n2
    induction n2 with
    | zero => intro z2 lz2 h; exact h.elim
    | succ n2 ih2 =>
      intro z2 lz2 h
      have h : w_X9_spreadMarks_L2 a0 Q (lp (w_X9_spreadMarks_L2 a0 Q) n2) z2 := h
      unfold w_X9_spreadMarks_L2 at h
      refine gc_iloadn C 1 1 dX9_spreadMarks_2 rfl rfl ?_
      refine gc_iconst C 4 dX9_spreadMarks_3 (by decide) ?_
      refine gc_icmp_ge C 95 dX9_spreadMarks_4 (by decide) (fun c4_1 => ?_) (fun c4_1 => ?_)
      · have h := h.1 c4_1
        exact gc_vret C E lz2 dX9_spreadMarks_95 ⟨rfl, h⟩
      · have h := h.2 c4_1
        refine gc_iconst C 2 dX9_spreadMarks_7 (by decide) ?_
        refine gc_istoren C 2 [(2, .int 2), (0, .ref a0), (1, .int z2.1)] dX9_spreadMarks_8 rfl (by decide) rfl ?_
        refine gc_iconst C 0 dX9_spreadMarks_9 (by decide) ?_
        refine gc_istoren C 3 [(3, .int 0), (2, .int 2), (0, .ref a0), (1, .int z2.1)] dX9_spreadMarks_10 rfl (by decide) rfl ?_
        refine gc_sub [2, 3, 1, 0] rfl ?_
        obtain ⟨n11, h⟩ := h
        have k11 : ∀ (n11 : Nat) (z11 : Int32 × Int32 × CS), kdLe z2.2 z11.2.2 → lp (w_X9_spreadMarks_L11 a0 (lp (w_X9_spreadMarks_L2 a0 Q) n2) z2) n11 z11 → GC p l e (rmC 4 B t) s m args below meth c 7 D K E0 B A0 (gc_Q below D K E0 A0 (qV Q) X args s t (rmC 4 B t)) z11.2.2 11 [(0, .ref a0), (1, .int z2.1), (2, .int z11.1), (3, .int z11.2.1)] [] := by
          intro n11
          induction n11 with
          | zero => intro z11 lz11 h; exact h.elim
          | succ n11 ih11 =>
            intro z11 lz11 h
            have h : w_X9_spreadMarks_L11 a0 (lp (w_X9_spreadMarks_L2 a0 Q) n2) z2 (lp (w_X9_spreadMarks_L11 a0 (lp (w_X9_spreadMarks_L2 a0 Q) n2) z2) n11) z11 := h
            unfold w_X9_spreadMarks_L11 at h
            refine gc_iloadn C 3 3 dX9_spreadMarks_11 rfl rfl ?_
            refine gc_aloadn C 0 0 dX9_spreadMarks_12 rfl rfl ?_
            obtain ⟨g1, h⟩ := h
            refine gc_getE C BX9 192 0 (by decide) rfl fe_192 vf_X9_12 rfl g1 dX9_spreadMarks_13 ?_
            refine gc_lsSize C (ci := 12) (k0 := 0) 192 (by decide) (by decide) (by decide) rfl ft_192 rfl (by decide) g1 vj_X9_38 dX9_spreadMarks_16 (Nat.le_of_ble_eq_true rfl) ?_
            refine gc_icmp_ge C 89 dX9_spreadMarks_19 (by decide) (fun c19_2 => ?_) (fun c19_2 => ?_)
            · have h := h.1 c19_2
              refine gc_iinc C 1 (z2.1 + 1) [(1, .int (z2.1 + 1)), (0, .ref a0), (2, .int z11.1), (3, .int z11.2.1)] dX9_spreadMarks_89 rfl rfl (by decide) rfl ?_
              refine gc_goto C 2 dX9_spreadMarks_92 (by decide) ?_
              refine gc_sub [1, 0] rfl ?_
              have h9 := ih2 ((z2.1 + 1), z11.2.2) (kdLe.tr lz2 lz11) h
              exact h9
            · have h := h.2 c19_2
              refine gc_aloadn C 0 0 dX9_spreadMarks_22 rfl rfl ?_
              refine gc_iloadn C 1 1 dX9_spreadMarks_23 rfl rfl ?_
              refine gc_iloadn C 3 3 dX9_spreadMarks_24 rfl rfl ?_
              obtain ⟨g2, h⟩ := h
              refine gc_callV C BX9 (y := yX9_row) (as := [.int z2.1, .int z11.2.1]) rfl (by decide) (by decide) (c_X9_row l D K E0 B A0 a0 z2.1 z11.2.1 z11.2.2 g2) hk_X9_row rfl vl_X9_66 kc_X9_row (isC_of g1 (by decide)) dX9_spreadMarks_25 (Nat.le_of_ble_eq_true rfl) (fun _ _ h => h.elim) (qkRP ?_)
              refine gc_astore C [(4, .ref (v_X9_row a0 z2.1 z11.2.1 z11.2.2)), (0, .ref a0), (1, .int z2.1), (2, .int z11.1), (3, .int z11.2.1)] dX9_spreadMarks_28 (by decide) rfl ?_
              refine gc_iconst C 0 dX9_spreadMarks_30 (by decide) ?_
              refine gc_istore C [(5, .int 0), (4, .ref (v_X9_row a0 z2.1 z11.2.1 z11.2.2)), (0, .ref a0), (1, .int z2.1), (2, .int z11.1), (3, .int z11.2.1)] dX9_spreadMarks_31 (by decide) rfl ?_
              refine gc_sub [2, 3, 4, 5, 1, 0] rfl ?_
              obtain ⟨n33, h⟩ := h
              have k33 : ∀ (n33 : Nat) (z33 : Int32 × Int32 × CS), kdLe z11.2.2 z33.2.2 → lp (w_X9_spreadMarks_L33 a0 z2 (lp (w_X9_spreadMarks_L11 a0 (lp (w_X9_spreadMarks_L2 a0 Q) n2) z2) n11) z11) n33 z33 → GC p l e (rmC 4 B t) s m args below meth c 7 D K E0 B A0 (gc_Q below D K E0 A0 (qV Q) X args s t (rmC 4 B t)) z33.2.2 33 [(0, .ref a0), (1, .int z2.1), (2, .int z33.1), (3, .int z11.2.1), (4, .ref (v_X9_row a0 z2.1 z11.2.1 z11.2.2)), (5, .int z33.2.1)] [] := by
                intro n33
                induction n33 with
                | zero => intro z33 lz33 h; exact h.elim
                | succ n33 ih33 =>
                  intro z33 lz33 h
                  have h : w_X9_spreadMarks_L33 a0 z2 (lp (w_X9_spreadMarks_L11 a0 (lp (w_X9_spreadMarks_L2 a0 Q) n2) z2) n11) z11 (lp (w_X9_spreadMarks_L33 a0 z2 (lp (w_X9_spreadMarks_L11 a0 (lp (w_X9_spreadMarks_L2 a0 Q) n2) z2) n11) z11) n33) z33 := h
                  unfold w_X9_spreadMarks_L33 at h
                  refine gc_iload C 5 dX9_spreadMarks_33 rfl ?_
                  refine gc_aload C 4 dX9_spreadMarks_35 rfl ?_
                  obtain ⟨g3, h⟩ := h
                  obtain ⟨g4, h⟩ := h
                  refine gc_callV C BX8 (y := yX8_size) (as := []) rfl (by decide) (by decide) (c_X8_size l D K E0 B A0 (v_X9_row a0 z2.1 z11.2.1 z11.2.2) z33.2.2 g4) hk_X8_size rfl vl_X9_92 kc_X8_size (isC_of g3 (by decide)) dX9_spreadMarks_37 (Nat.le_of_ble_eq_true rfl) (fun _ _ h => h.elim) (qkIP ?_)
                  refine gc_icmp_ge C 83 dX9_spreadMarks_40 (by decide) (fun c40_3 => ?_) (fun c40_3 => ?_)
                  · have h := h.1 c40_3
                    refine gc_iinc C 3 (z11.2.1 + 1) [(3, .int (z11.2.1 + 1)), (0, .ref a0), (1, .int z2.1), (2, .int z33.1), (4, .ref (v_X9_row a0 z2.1 z11.2.1 z11.2.2)), (5, .int z33.2.1)] dX9_spreadMarks_83 rfl rfl (by decide) rfl ?_
                    refine gc_goto C 11 dX9_spreadMarks_86 (by decide) ?_
                    refine gc_sub [1, 2, 3, 0] rfl ?_
                    have h9 := ih11 (z33.1, (z11.2.1 + 1), z33.2.2) (kdLe.tr lz11 lz33) h
                    exact h9
                  · have h := h.2 c40_3
                    refine gc_aload C 4 dX9_spreadMarks_43 rfl ?_
                    refine gc_iload C 5 dX9_spreadMarks_45 rfl ?_
                    obtain ⟨g5, h⟩ := h
                    refine gc_callV C BX8 (y := yX8_get) (as := [.int z33.2.1]) rfl (by decide) (by decide) (c_X8_get l D K E0 B A0 (v_X9_row a0 z2.1 z11.2.1 z11.2.2) z33.2.1 z33.2.2 g5) hk_X8_get rfl vl_X9_93 kc_X8_get (isC_of g3 (by decide)) dX9_spreadMarks_47 (Nat.le_of_ble_eq_true rfl) (fun _ _ h => h.elim) (qkRP ?_)
                    refine gc_astore C [(6, .ref (v_X8_get (v_X9_row a0 z2.1 z11.2.1 z11.2.2) z33.2.1 z33.2.2)), (0, .ref a0), (1, .int z2.1), (2, .int z33.1), (3, .int z11.2.1), (4, .ref (v_X9_row a0 z2.1 z11.2.1 z11.2.2)), (5, .int z33.2.1)] dX9_spreadMarks_50 (by decide) rfl ?_
                    refine gc_aload C 0 dX9_spreadMarks_52 rfl ?_
                    obtain ⟨g6, h⟩ := h
                    refine gc_getI C BX0 52 4 (by decide) rfl ft_52 vf_X9_101 rfl (isC_of g6 (by decide)) dX9_spreadMarks_54 ?_
                    refine gc_iconst C (-1) dX9_spreadMarks_57 (by decide) ?_
                    have k70 : ∀ x7 : Int32, x7 = (if (fI z33.2.2 52 (v_X8_get (v_X9_row a0 z2.1 z11.2.1 z11.2.2) z33.2.1 z33.2.2)) = (-1) then z33.1 else (fI z33.2.2 52 (v_X8_get (v_X9_row a0 z2.1 z11.2.1 z11.2.2) z33.2.1 z33.2.2))) → GC p l e (rmC 4 B t) s m args below meth c 7 D K E0 B A0 (gc_Q below D K E0 A0 (qV Q) X args s t (rmC 4 B t)) z33.2.2 70 [(0, .ref a0), (1, .int z2.1), (3, .int z11.2.1), (4, .ref (v_X9_row a0 z2.1 z11.2.1 z11.2.2)), (5, .int z33.2.1), (6, .ref (v_X8_get (v_X9_row a0 z2.1 z11.2.1 z11.2.2) z33.2.1 z33.2.2))] [.int x7] := by
                      intro x7 ex7
                      have h := h x7 ex7
                      refine gc_istoren C 2 [(2, .int x7), (0, .ref a0), (1, .int z2.1), (3, .int z11.2.1), (4, .ref (v_X9_row a0 z2.1 z11.2.1 z11.2.2)), (5, .int z33.2.1), (6, .ref (v_X8_get (v_X9_row a0 z2.1 z11.2.1 z11.2.2) z33.2.1 z33.2.2))] dX9_spreadMarks_70 rfl (by decide) rfl ?_
                      refine gc_aload C 6 dX9_spreadMarks_71 rfl ?_
                      refine gc_iloadn C 0 2 dX9_spreadMarks_73 rfl rfl ?_
                      refine gc_putI C BX0 53 5 (by decide) rfl .int ft_53 vf_X9_104 rfl rfl (by decide +kernel) rfl rfl (isC_of g6 (by decide)) dX9_spreadMarks_74 ?_
                      refine gc_nameS (fun t8 et8 => ?_)
                      have h := h t8 et8
                      have lt8 : kdLe z33.2.2 t8 := kdLe.eq (by rw [et8]; rfl)
                      refine gc_iinc C 5 (z33.2.1 + 1) [(5, .int (z33.2.1 + 1)), (2, .int x7), (0, .ref a0), (1, .int z2.1), (3, .int z11.2.1), (4, .ref (v_X9_row a0 z2.1 z11.2.1 z11.2.2)), (6, .ref (v_X8_get (v_X9_row a0 z2.1 z11.2.1 z11.2.2) z33.2.1 z33.2.2))] dX9_spreadMarks_77 rfl rfl (by decide) rfl ?_
                      refine gc_goto C 33 dX9_spreadMarks_80 (by decide) ?_
                      refine gc_sub [2, 3, 1, 4, 5, 0] rfl ?_
                      have h9 := ih33 (x7, (z33.2.1 + 1), t8) (kdLe.tr lz33 lt8) h
                      exact h9
                    refine gc_icmp_ne C 65 dX9_spreadMarks_58 (by decide) (fun c58_4 => ?_) (fun c58_4 => ?_)
                    · refine gc_aload C 0 dX9_spreadMarks_65 rfl ?_
                      refine gc_getI C BX0 52 4 (by decide) rfl ft_52 vf_X9_101 rfl (isC_of g6 (by decide)) dX9_spreadMarks_67 ?_
                      refine gc_sub [1, 2, 4, 5, 6, 0] rfl ?_
                      exact k70 _ ((if_neg c58_4).symm)
                    · refine gc_iloadn C 3 2 dX9_spreadMarks_61 rfl rfl ?_
                      refine gc_goto C 70 dX9_spreadMarks_62 (by decide) ?_
                      refine gc_sub [1, 2, 4, 5, 6, 0] rfl ?_
                      exact k70 _ ((if_pos c58_4).symm)
              exact k33 n33 (z11.1, 0, z11.2.2) (kdLe.rf _) h
        exact k11 n11 (2, 0, z2.2) (kdLe.rf _) h
  exact k2 n2 (0, t) (kdLe.rf _) h
def w_X6_nextVoice_L4 (a0 : Nat) (a1 : Nat) (t : CS) (Q : Int32 → CS → Prop) (K4 : (Int32 × Int32) → Prop) (z4 : Int32 × Int32) : Prop := ((4 ≤ z4.2) → Q z4.1 t) ∧ (¬ (4 ≤ z4.2) → (kdC t a0 = 9) ∧ (vp_in z4.2 (cLN 152)) ∧ (kdC t a1 = 5) ∧ (vp_in z4.2 (cLN 83)) ∧ ((fQ t 83 a1 (Int32.toNatClampNeg z4.2)) ≠ none) ∧ (kdC t (oG (fQ t 83 a1 (Int32.toNatClampNeg z4.2))) = 11) ∧ (d_X8_size (oG (fQ t 83 a1 (Int32.toNatClampNeg z4.2))) t) ∧ ∀ x8 : Int32, x8 = (if ¬ ((fA t 152 a0 (Int32.toNatClampNeg z4.2)) < (v_X8_size (oG (fQ t 83 a1 (Int32.toNatClampNeg z4.2))) t)) then 1 else 0) → ((x8 = 0) → (¬ (z4.1 = (-1))) → vp_in z4.2 (cLN 153)) ∧ ((x8 = 0) → (¬ (z4.1 = (-1))) → vp_in z4.1 (cLN 153)) ∧ ∀ x9 : Int32, x9 = (if (x8 = 0) ∧ ((z4.1 = (-1)) ∨ (¬ ((fA t 153 a0 (Int32.toNatClampNeg z4.1)) ≤ (fA t 153 a0 (Int32.toNatClampNeg z4.2))))) then z4.2 else z4.1) → K4 (x9, (z4.2 + 1)))
def w_X6_nextVoice (B : Nat × Nat) (a0 : Nat) (a1 : Nat) (t : CS) (Q : Int32 → CS → Prop) (X : String → CS → Prop) : Prop := ∃ n, lp (w_X6_nextVoice_L4 a0 a1 t Q) n ((-1), 0)
set_option maxRecDepth 20000 in
set_option maxHeartbeats 2000000 in
theorem c_X6_nextVoice (l : Launch) (D : va_G) (K : Nat → ClassId) (E0 : Nat) (B : Nat × Nat) (A0 : Nat → Prop) (a0 : Nat) (a1 : Nat) (t : CS) (Q : Int32 → CS → Prop) (X : String → CS → Prop) (h : w_X6_nextVoice B a0 a1 t Q X) : MetC l yX6_nextVoice cX6_nextVoice 5 (some .int) 4 [.ref a0, .ref a1] (qI Q) X D K E0 B A0 t := by
  unfold w_X6_nextVoice at h
  refine gc_start (by decide) rfl (Nat.le_of_ble_eq_true rfl) (fun p e s m args below meth c C E => ?_)
  refine gc_iconst C (-1) dX6_nextVoice_0 (by decide) ?_
  refine gc_istoren C 2 [(2, .int (-1)), (0, .ref a0), (1, .ref a1)] dX6_nextVoice_1 rfl (by decide) rfl ?_
  refine gc_iconst C 0 dX6_nextVoice_2 (by decide) ?_
  refine gc_istoren C 3 [(3, .int 0), (2, .int (-1)), (0, .ref a0), (1, .ref a1)] dX6_nextVoice_3 rfl (by decide) rfl ?_
  refine gc_sub [2, 3, 1, 0] rfl ?_
  obtain ⟨n4, h⟩ := h
  have k4 : ∀ (n4 : Nat) (z4 : Int32 × Int32), lp (w_X6_nextVoice_L4 a0 a1 t Q) n4 z4 → GC p l e (rmC 4 B t) s m args below meth c 5 D K E0 B A0 (gc_Q below D K E0 A0 (qI Q) X args s t (rmC 4 B t)) t 4 [(0, .ref a0), (1, .ref a1), (2, .int z4.1), (3, .int z4.2)] [] := by
    intro n4
    induction n4 with
    | zero => intro z4 h; exact h.elim
    | succ n4 ih4 =>
      intro z4 h
      have h : w_X6_nextVoice_L4 a0 a1 t Q (lp (w_X6_nextVoice_L4 a0 a1 t Q) n4) z4 := h
      unfold w_X6_nextVoice_L4 at h
      refine gc_iloadn C 3 3 dX6_nextVoice_4 rfl rfl ?_
      refine gc_iconst C 4 dX6_nextVoice_5 (by decide) ?_
      refine gc_icmp_ge C 67 dX6_nextVoice_6 (by decide) (fun c6_1 => ?_) (fun c6_1 => ?_)
      · have h := h.1 c6_1
        refine gc_iloadn C 2 2 dX6_nextVoice_67 rfl rfl ?_
        exact gc_iret C E (kdLe.rf _) dX6_nextVoice_68 ⟨_, rfl, h⟩
      · have h := h.2 c6_1
        refine gc_aloadn C 0 0 dX6_nextVoice_9 rfl rfl ?_
        obtain ⟨g1, h⟩ := h
        refine gc_getE C BX6 152 8 (by decide) rfl fe_152 vf_X6_35 rfl g1 dX6_nextVoice_10 ?_
        refine gc_iloadn C 3 3 dX6_nextVoice_13 rfl rfl ?_
        obtain ⟨g2, h⟩ := h
        refine gc_iald C (ci := 9) (k0 := 8) 152 (by decide) (by decide) (by decide) rfl ft_152 (by decide) g1 g2 dX6_nextVoice_14 ?_
        refine gc_aloadn C 1 1 dX6_nextVoice_15 rfl rfl ?_
        obtain ⟨g3, h⟩ := h
        refine gc_getE C BX2 83 3 (by decide) rfl fe_83 vf_X6_108 rfl g3 dX6_nextVoice_16 ?_
        refine gc_iloadn C 3 3 dX6_nextVoice_19 rfl rfl ?_
        obtain ⟨g4, h⟩ := h
        refine gc_qald C (ci := 5) (k0 := 3) 83 (by decide) (by decide) (by decide) rfl (CQ := RX8) 4 rfl ft_83 (by decide) g3 g4 dX6_nextVoice_20 ?_
        obtain ⟨g5, h⟩ := h
        refine gc_deref g5 ?_
        obtain ⟨g6, h⟩ := h
        obtain ⟨g7, h⟩ := h
        refine gc_callV C BX8 (y := yX8_size) (as := []) rfl (by decide) (by decide) (c_X8_size l D K E0 B A0 (oG (fQ t 83 a1 (Int32.toNatClampNeg z4.2))) t g7) hk_X8_size rfl vl_X6_114 kc_X8_size (isC_of g6 (by decide)) dX6_nextVoice_21 (Nat.le_of_ble_eq_true rfl) (fun _ _ h => h.elim) (qkIP ?_)
        have k32 : ∀ x8 : Int32, x8 = (if ¬ ((fA t 152 a0 (Int32.toNatClampNeg z4.2)) < (v_X8_size (oG (fQ t 83 a1 (Int32.toNatClampNeg z4.2))) t)) then 1 else 0) → GC p l e (rmC 4 B t) s m args below meth c 5 D K E0 B A0 (gc_Q below D K E0 A0 (qI Q) X args s t (rmC 4 B t)) t 32 [(0, .ref a0), (1, .ref a1), (2, .int z4.1), (3, .int z4.2)] [.int x8] := by
          intro x8 ex8
          have h := h x8 ex8
          refine gc_istore C [(4, .int x8), (0, .ref a0), (1, .ref a1), (2, .int z4.1), (3, .int z4.2)] dX6_nextVoice_32 (by decide) rfl ?_
          refine gc_iload C 0 dX6_nextVoice_34 rfl ?_
          obtain ⟨g10, h⟩ := h
          obtain ⟨g11, h⟩ := h
          have k61 : ∀ x9 : Int32, x9 = (if (x8 = 0) ∧ ((z4.1 = (-1)) ∨ (¬ ((fA t 153 a0 (Int32.toNatClampNeg z4.1)) ≤ (fA t 153 a0 (Int32.toNatClampNeg z4.2))))) then z4.2 else z4.1) → GC p l e (rmC 4 B t) s m args below meth c 5 D K E0 B A0 (gc_Q below D K E0 A0 (qI Q) X args s t (rmC 4 B t)) t 61 [(0, .ref a0), (1, .ref a1), (2, .int x9), (3, .int z4.2)] [] := by
            intro x9 ex9
            have h := h x9 ex9
            refine gc_iinc C 3 (z4.2 + 1) [(3, .int (z4.2 + 1)), (0, .ref a0), (1, .ref a1), (2, .int x9)] dX6_nextVoice_61 rfl rfl (by decide) rfl ?_
            refine gc_goto C 4 dX6_nextVoice_64 (by decide) ?_
            refine gc_sub [1, 2, 3, 0] rfl ?_
            have h9 := ih4 (x9, (z4.2 + 1)) h
            exact h9
          refine gc_if_ne C 61 dX6_nextVoice_36 (by decide) (fun c36_3 => ?_) (fun c36_3 => ?_)
          · refine gc_sub [1, 2, 3, 4] rfl ?_
            exact k61 _ ((if_neg (fun q0 => c36_3 q0.1)).symm)
          · refine gc_iloadn C 3 2 dX6_nextVoice_39 rfl rfl ?_
            refine gc_iconst C (-1) dX6_nextVoice_40 (by decide) ?_
            refine gc_icmp_eq C 59 dX6_nextVoice_41 (by decide) (fun c41_4 => ?_) (fun c41_4 => ?_)
            · refine gc_iloadn C 4 3 dX6_nextVoice_59 rfl rfl ?_
              refine gc_istoren C 2 [(2, .int z4.2), (4, .int x8), (0, .ref a0), (1, .ref a1), (3, .int z4.2)] dX6_nextVoice_60 rfl (by decide) rfl ?_
              refine gc_sub [2, 3, 0, 4] rfl ?_
              exact k61 _ ((if_pos ⟨c36_3, (Or.inl c41_4)⟩).symm)
            · refine gc_aloadn C 1 0 dX6_nextVoice_44 rfl rfl ?_
              refine gc_getE C BX6 153 9 (by decide) rfl fe_153 vf_X6_38 rfl g1 dX6_nextVoice_45 ?_
              refine gc_iloadn C 4 3 dX6_nextVoice_48 rfl rfl ?_
              refine gc_iald C (ci := 9) (k0 := 9) 153 (by decide) (by decide) (by decide) rfl ft_153 (by decide) g1 (g10 c36_3 c41_4) dX6_nextVoice_49 ?_
              refine gc_aloadn C 1 0 dX6_nextVoice_50 rfl rfl ?_
              refine gc_getE C BX6 153 9 (by decide) rfl fe_153 vf_X6_38 rfl g1 dX6_nextVoice_51 ?_
              refine gc_iloadn C 3 2 dX6_nextVoice_54 rfl rfl ?_
              refine gc_iald C (ci := 9) (k0 := 9) 153 (by decide) (by decide) (by decide) rfl ft_153 (by decide) g1 (g11 c36_3 c41_4) dX6_nextVoice_55 ?_
              refine gc_icmp_ge C 61 dX6_nextVoice_56 (by decide) (fun c56_5 => ?_) (fun c56_5 => ?_)
              · refine gc_sub [1, 2, 3, 4] rfl ?_
                exact k61 _ ((if_neg (fun q0 => (fun q1 => Or.elim q1 c41_4 (fun q2 => q2 c56_5)) q0.2)).symm)
              · refine gc_iloadn C 4 3 dX6_nextVoice_59 rfl rfl ?_
                refine gc_istoren C 2 [(2, .int z4.2), (4, .int x8), (0, .ref a0), (1, .ref a1), (3, .int z4.2)] dX6_nextVoice_60 rfl (by decide) rfl ?_
                refine gc_sub [2, 3, 0, 4] rfl ?_
                exact k61 _ ((if_pos ⟨c36_3, (Or.inr c56_5)⟩).symm)
        refine gc_icmp_lt C 31 dX6_nextVoice_24 (by decide) (fun c24_2 => ?_) (fun c24_2 => ?_)
        · refine gc_iconst C 0 dX6_nextVoice_31 (by decide) ?_
          exact k32 _ ((if_neg (fun q0 => q0 c24_2)).symm)
        · refine gc_iconst C 1 dX6_nextVoice_27 (by decide) ?_
          refine gc_goto C 32 dX6_nextVoice_28 (by decide) ?_
          exact k32 _ ((if_pos c24_2).symm)
  exact k4 n4 ((-1), 0) h
def v_X6_eventAhead (a0 : Nat) (a1 : Nat) (a2 : Int32) (a3 : Int32) (a4 : Int32) (t : CS) : Option Nat := (if a4 ≤ 0 then (if a2 = 0 then none else (if ((fA t 144 a0 (Int32.toNatClampNeg (a2 - 1))) + 1) = (fA t 144 a0 (Int32.toNatClampNeg a2)) then (if (v_X8_isEmpty (v_X9_row a1 a3 (fA t 144 a0 (Int32.toNatClampNeg (a2 - 1))) t) t) = 0 then (some (v_X8_get (v_X9_row a1 a3 (fA t 144 a0 (Int32.toNatClampNeg (a2 - 1))) t) ((v_X8_size (v_X9_row a1 a3 (fA t 144 a0 (Int32.toNatClampNeg (a2 - 1))) t) t) - 1) t)) else none) else none)) else (some (v_X8_get (v_X9_row a1 a3 (fA t 144 a0 (Int32.toNatClampNeg a2)) t) (a4 - 1) t)))
def d_X6_eventAhead (a0 : Nat) (a1 : Nat) (a2 : Int32) (a3 : Int32) (a4 : Int32) (t : CS) : Prop := ((a4 ≤ 0) → (¬ (a2 = 0)) → kdC t a0 = 9) ∧ ((a4 ≤ 0) → (¬ (a2 = 0)) → vp_in (a2 - 1) (cLN 144)) ∧ ((a4 ≤ 0) → (¬ (a2 = 0)) → vp_in a2 (cLN 144)) ∧ ((a4 ≤ 0) → (¬ (a2 = 0)) → (((fA t 144 a0 (Int32.toNatClampNeg (a2 - 1))) + 1) = (fA t 144 a0 (Int32.toNatClampNeg a2))) → vp_in (a2 - 1) (cLN 144)) ∧ ((a4 ≤ 0) → (¬ (a2 = 0)) → (((fA t 144 a0 (Int32.toNatClampNeg (a2 - 1))) + 1) = (fA t 144 a0 (Int32.toNatClampNeg a2))) → kdC t a1 = 12) ∧ ((a4 ≤ 0) → (¬ (a2 = 0)) → (((fA t 144 a0 (Int32.toNatClampNeg (a2 - 1))) + 1) = (fA t 144 a0 (Int32.toNatClampNeg a2))) → d_X9_row a1 a3 (fA t 144 a0 (Int32.toNatClampNeg (a2 - 1))) t) ∧ ((a4 ≤ 0) → (¬ (a2 = 0)) → (((fA t 144 a0 (Int32.toNatClampNeg (a2 - 1))) + 1) = (fA t 144 a0 (Int32.toNatClampNeg a2))) → kdC t (v_X9_row a1 a3 (fA t 144 a0 (Int32.toNatClampNeg (a2 - 1))) t) = 11) ∧ ((a4 ≤ 0) → (¬ (a2 = 0)) → (((fA t 144 a0 (Int32.toNatClampNeg (a2 - 1))) + 1) = (fA t 144 a0 (Int32.toNatClampNeg a2))) → d_X8_isEmpty (v_X9_row a1 a3 (fA t 144 a0 (Int32.toNatClampNeg (a2 - 1))) t) t) ∧ ((a4 ≤ 0) → (¬ (a2 = 0)) → (((fA t 144 a0 (Int32.toNatClampNeg (a2 - 1))) + 1) = (fA t 144 a0 (Int32.toNatClampNeg a2))) → ((v_X8_isEmpty (v_X9_row a1 a3 (fA t 144 a0 (Int32.toNatClampNeg (a2 - 1))) t) t) = 0) → d_X8_size (v_X9_row a1 a3 (fA t 144 a0 (Int32.toNatClampNeg (a2 - 1))) t) t) ∧ ((a4 ≤ 0) → (¬ (a2 = 0)) → (((fA t 144 a0 (Int32.toNatClampNeg (a2 - 1))) + 1) = (fA t 144 a0 (Int32.toNatClampNeg a2))) → ((v_X8_isEmpty (v_X9_row a1 a3 (fA t 144 a0 (Int32.toNatClampNeg (a2 - 1))) t) t) = 0) → d_X8_get (v_X9_row a1 a3 (fA t 144 a0 (Int32.toNatClampNeg (a2 - 1))) t) ((v_X8_size (v_X9_row a1 a3 (fA t 144 a0 (Int32.toNatClampNeg (a2 - 1))) t) t) - 1) t) ∧ ((¬ (a4 ≤ 0)) → kdC t a0 = 9) ∧ ((¬ (a4 ≤ 0)) → vp_in a2 (cLN 144)) ∧ ((¬ (a4 ≤ 0)) → kdC t a1 = 12) ∧ ((¬ (a4 ≤ 0)) → d_X9_row a1 a3 (fA t 144 a0 (Int32.toNatClampNeg a2)) t) ∧ ((¬ (a4 ≤ 0)) → kdC t (v_X9_row a1 a3 (fA t 144 a0 (Int32.toNatClampNeg a2)) t) = 11) ∧ ((¬ (a4 ≤ 0)) → d_X8_get (v_X9_row a1 a3 (fA t 144 a0 (Int32.toNatClampNeg a2)) t) (a4 - 1) t)
set_option maxRecDepth 20000 in
theorem c_X6_eventAhead (l : Launch) (D : va_G) (K : Nat → ClassId) (E0 : Nat) (B : Nat × Nat) (A0 : Nat → Prop) (a0 : Nat) (a1 : Nat) (a2 : Int32) (a3 : Int32) (a4 : Int32) (t : CS) (h : d_X6_eventAhead a0 a1 a2 a3 a4 t) : MetC l yX6_eventAhead cX6_eventAhead 6 (some (.object RX0)) 4 [.ref a0, .ref a1, .int a2, .int a3, .int a4] (qO (fun r t' => (v_X6_eventAhead a0 a1 a2 a3 a4 t) = r ∧ t = t')) (fun _ _ => False) D K E0 B A0 t := by
  obtain ⟨u1, u2, u3, u4, u5, u6, u7, u8, u9, u10, u11, u12, u13, u14, u15, u16⟩ := h
  refine gc_start (by decide) rfl (Nat.le_of_ble_eq_true rfl) (fun p e s m args below meth c C E => ?_)
  refine gc_iload C 4 dX6_eventAhead_0 rfl ?_
  refine gc_if_le C 24 dX6_eventAhead_2 (by decide) (fun c2_1 => ?_) (fun c2_1 => ?_)
  · refine gc_iloadn C 2 2 dX6_eventAhead_24 rfl rfl ?_
    refine gc_if_eq C 47 dX6_eventAhead_25 (by decide) (fun c25_2 => ?_) (fun c25_2 => ?_)
    · refine gc_null C dX6_eventAhead_47 ?_
      exact gc_aret (v := none) C E (kdLe.rf _) dX6_eventAhead_48 ⟨_, rfl, (Eq.symm (((Eq.trans (if_pos c2_1) (if_pos c25_2))).symm)), rfl⟩
    · refine gc_aloadn C 0 0 dX6_eventAhead_28 rfl rfl ?_
      refine gc_getE C BX6 144 0 (by decide) rfl fe_144 vf_X6_11 rfl (u1 c2_1 c25_2) dX6_eventAhead_29 ?_
      refine gc_iloadn C 2 2 dX6_eventAhead_32 rfl rfl ?_
      refine gc_iconst C 1 dX6_eventAhead_33 (by decide) ?_
      refine gc_isub C dX6_eventAhead_34 ?_
      refine gc_iald C (ci := 9) (k0 := 0) 144 (by decide) (by decide) (by decide) rfl ft_144 (by decide) (u1 c2_1 c25_2) (u2 c2_1 c25_2) dX6_eventAhead_35 ?_
      refine gc_iconst C 1 dX6_eventAhead_36 (by decide) ?_
      refine gc_iadd C dX6_eventAhead_37 ?_
      refine gc_aloadn C 0 0 dX6_eventAhead_38 rfl rfl ?_
      refine gc_getE C BX6 144 0 (by decide) rfl fe_144 vf_X6_11 rfl (u1 c2_1 c25_2) dX6_eventAhead_39 ?_
      refine gc_iloadn C 2 2 dX6_eventAhead_42 rfl rfl ?_
      refine gc_iald C (ci := 9) (k0 := 0) 144 (by decide) (by decide) (by decide) rfl ft_144 (by decide) (u1 c2_1 c25_2) (u3 c2_1 c25_2) dX6_eventAhead_43 ?_
      refine gc_icmp_eq C 49 dX6_eventAhead_44 (by decide) (fun c44_3 => ?_) (fun c44_3 => ?_)
      · refine gc_aloadn C 1 1 dX6_eventAhead_49 rfl rfl ?_
        refine gc_iloadn C 3 3 dX6_eventAhead_50 rfl rfl ?_
        refine gc_aloadn C 0 0 dX6_eventAhead_51 rfl rfl ?_
        refine gc_getE C BX6 144 0 (by decide) rfl fe_144 vf_X6_11 rfl (u1 c2_1 c25_2) dX6_eventAhead_52 ?_
        refine gc_iloadn C 2 2 dX6_eventAhead_55 rfl rfl ?_
        refine gc_iconst C 1 dX6_eventAhead_56 (by decide) ?_
        refine gc_isub C dX6_eventAhead_57 ?_
        refine gc_iald C (ci := 9) (k0 := 0) 144 (by decide) (by decide) (by decide) rfl ft_144 (by decide) (u1 c2_1 c25_2) (u4 c2_1 c25_2 c44_3) dX6_eventAhead_58 ?_
        refine gc_callV C BX9 (y := yX9_row) (as := [.int a3, .int (fA t 144 a0 (Int32.toNatClampNeg (a2 - 1)))]) rfl (by decide) (by decide) (c_X9_row l D K E0 B A0 a1 a3 (fA t 144 a0 (Int32.toNatClampNeg (a2 - 1))) t (u6 c2_1 c25_2 c44_3)) hk_X9_row rfl vl_X6_119 kc_X9_row (isC_of (u5 c2_1 c25_2 c44_3) (by decide)) dX6_eventAhead_59 (Nat.le_of_ble_eq_true rfl) (fun _ _ h => h.elim) (qkRP ?_)
        refine gc_astore C [(5, .ref (v_X9_row a1 a3 (fA t 144 a0 (Int32.toNatClampNeg (a2 - 1))) t)), (0, .ref a0), (1, .ref a1), (2, .int a2), (3, .int a3), (4, .int a4)] dX6_eventAhead_62 (by decide) rfl ?_
        refine gc_aload C 0 dX6_eventAhead_64 rfl ?_
        refine gc_callV C BX8 (y := yX8_isEmpty) (as := []) rfl (by decide) (by decide) (c_X8_isEmpty l D K E0 B A0 (v_X9_row a1 a3 (fA t 144 a0 (Int32.toNatClampNeg (a2 - 1))) t) t (u8 c2_1 c25_2 c44_3)) hk_X8_isEmpty rfl vl_X6_152 kc_X8_isEmpty (isC_of (u7 c2_1 c25_2 c44_3) (by decide)) dX6_eventAhead_66 (Nat.le_of_ble_eq_true rfl) (fun _ _ h => h.elim) (qkIP ?_)
        refine gc_if_eq C 76 dX6_eventAhead_69 (by decide) (fun c69_4 => ?_) (fun c69_4 => ?_)
        · refine gc_aload C 0 dX6_eventAhead_76 rfl ?_
          refine gc_aload C 0 dX6_eventAhead_78 rfl ?_
          refine gc_callV C BX8 (y := yX8_size) (as := []) rfl (by decide) (by decide) (c_X8_size l D K E0 B A0 (v_X9_row a1 a3 (fA t 144 a0 (Int32.toNatClampNeg (a2 - 1))) t) t (u9 c2_1 c25_2 c44_3 c69_4)) hk_X8_size rfl vl_X6_114 kc_X8_size (isC_of (u7 c2_1 c25_2 c44_3) (by decide)) dX6_eventAhead_80 (Nat.le_of_ble_eq_true rfl) (fun _ _ h => h.elim) (qkIP ?_)
          refine gc_iconst C 1 dX6_eventAhead_83 (by decide) ?_
          refine gc_isub C dX6_eventAhead_84 ?_
          refine gc_callV C BX8 (y := yX8_get) (as := [.int ((v_X8_size (v_X9_row a1 a3 (fA t 144 a0 (Int32.toNatClampNeg (a2 - 1))) t) t) - 1)]) rfl (by decide) (by decide) (c_X8_get l D K E0 B A0 (v_X9_row a1 a3 (fA t 144 a0 (Int32.toNatClampNeg (a2 - 1))) t) ((v_X8_size (v_X9_row a1 a3 (fA t 144 a0 (Int32.toNatClampNeg (a2 - 1))) t) t) - 1) t (u10 c2_1 c25_2 c44_3 c69_4)) hk_X8_get rfl vl_X6_123 kc_X8_get (isC_of (u7 c2_1 c25_2 c44_3) (by decide)) dX6_eventAhead_85 (Nat.le_of_ble_eq_true rfl) (fun _ _ h => h.elim) (qkRP ?_)
          refine gc_ret0 ?_
          exact gc_aret (v := some (v_X8_get (v_X9_row a1 a3 (fA t 144 a0 (Int32.toNatClampNeg (a2 - 1))) t) ((v_X8_size (v_X9_row a1 a3 (fA t 144 a0 (Int32.toNatClampNeg (a2 - 1))) t) t) - 1) t)) C E (kdLe.rf _) dX6_eventAhead_88 ⟨_, rfl, (Eq.symm (((Eq.trans (if_pos c2_1) (Eq.trans (if_neg c25_2) (Eq.trans (if_pos c44_3) (if_pos c69_4))))).symm)), rfl⟩
        · refine gc_null C dX6_eventAhead_72 ?_
          refine gc_goto C 88 dX6_eventAhead_73 (by decide) ?_
          exact gc_aret (v := none) C E (kdLe.rf _) dX6_eventAhead_88 ⟨_, rfl, (Eq.symm (((Eq.trans (if_pos c2_1) (Eq.trans (if_neg c25_2) (Eq.trans (if_pos c44_3) (if_neg c69_4))))).symm)), rfl⟩
      · refine gc_null C dX6_eventAhead_47 ?_
        exact gc_aret (v := none) C E (kdLe.rf _) dX6_eventAhead_48 ⟨_, rfl, (Eq.symm (((Eq.trans (if_pos c2_1) (Eq.trans (if_neg c25_2) (if_neg c44_3)))).symm)), rfl⟩
  · refine gc_aloadn C 1 1 dX6_eventAhead_5 rfl rfl ?_
    refine gc_iloadn C 3 3 dX6_eventAhead_6 rfl rfl ?_
    refine gc_aloadn C 0 0 dX6_eventAhead_7 rfl rfl ?_
    refine gc_getE C BX6 144 0 (by decide) rfl fe_144 vf_X6_11 rfl (u11 c2_1) dX6_eventAhead_8 ?_
    refine gc_iloadn C 2 2 dX6_eventAhead_11 rfl rfl ?_
    refine gc_iald C (ci := 9) (k0 := 0) 144 (by decide) (by decide) (by decide) rfl ft_144 (by decide) (u11 c2_1) (u12 c2_1) dX6_eventAhead_12 ?_
    refine gc_callV C BX9 (y := yX9_row) (as := [.int a3, .int (fA t 144 a0 (Int32.toNatClampNeg a2))]) rfl (by decide) (by decide) (c_X9_row l D K E0 B A0 a1 a3 (fA t 144 a0 (Int32.toNatClampNeg a2)) t (u14 c2_1)) hk_X9_row rfl vl_X6_119 kc_X9_row (isC_of (u13 c2_1) (by decide)) dX6_eventAhead_13 (Nat.le_of_ble_eq_true rfl) (fun _ _ h => h.elim) (qkRP ?_)
    refine gc_iload C 4 dX6_eventAhead_16 rfl ?_
    refine gc_iconst C 1 dX6_eventAhead_18 (by decide) ?_
    refine gc_isub C dX6_eventAhead_19 ?_
    refine gc_callV C BX8 (y := yX8_get) (as := [.int (a4 - 1)]) rfl (by decide) (by decide) (c_X8_get l D K E0 B A0 (v_X9_row a1 a3 (fA t 144 a0 (Int32.toNatClampNeg a2)) t) (a4 - 1) t (u16 c2_1)) hk_X8_get rfl vl_X6_123 kc_X8_get (isC_of (u15 c2_1) (by decide)) dX6_eventAhead_20 (Nat.le_of_ble_eq_true rfl) (fun _ _ h => h.elim) (qkRP ?_)
    refine gc_ret0 ?_
    exact gc_aret (v := some (v_X8_get (v_X9_row a1 a3 (fA t 144 a0 (Int32.toNatClampNeg a2)) t) (a4 - 1) t)) C E (kdLe.rf _) dX6_eventAhead_23 ⟨_, rfl, (Eq.symm (((if_neg c2_1)).symm)), rfl⟩
def v_X0_isTiedTo (a0 : Nat) (a1 : Nat) (t : CS) : Int32 := (if (¬ ((fI t 51 a0) = 0)) ∧ ((fI t 50 a1) = (fI t 50 a0)) then 1 else 0)
def d_X0_isTiedTo (a0 : Nat) (a1 : Nat) (t : CS) : Prop := (kdC t a0 = 3) ∧ ((¬ ((fI t 51 a0) = 0)) → kdC t a1 = 3)
theorem vb_X0_isTiedTo {a0 : Nat} {a1 : Nat} {t : CS} : gb (v_X0_isTiedTo a0 a1 t) := by unfold v_X0_isTiedTo; split <;> first | exact Or.inr rfl | exact Or.inl rfl
set_option maxRecDepth 20000 in
theorem c_X0_isTiedTo (l : Launch) (D : va_G) (K : Nat → ClassId) (E0 : Nat) (B : Nat × Nat) (A0 : Nat → Prop) (a0 : Nat) (a1 : Nat) (t : CS) (h : d_X0_isTiedTo a0 a1 t) : MetC l yX0_isTiedTo cX0_isTiedTo 2 (some .boolean) 0 [.ref a0, .ref a1] (qI (fun r t' => (v_X0_isTiedTo a0 a1 t) = r ∧ t = t')) (fun _ _ => False) D K E0 B A0 t := by
  obtain ⟨u1, u2⟩ := h
  refine gc_start (by decide) rfl (Nat.le_of_ble_eq_true rfl) (fun p e s m args below meth c C E => ?_)
  refine gc_aloadn C 0 0 dX0_isTiedTo_0 rfl rfl ?_
  refine gc_getI C BX0 51 3 (by decide) rfl ft_51 vf_X0_32 rfl (isC_of u1 (by decide)) dX0_isTiedTo_1 ?_
  refine gc_if_eq C 22 dX0_isTiedTo_4 (by decide) (fun c4_1 => ?_) (fun c4_1 => ?_)
  · refine gc_iconst C 0 dX0_isTiedTo_22 (by decide) ?_
    exact gc_zret C E (Or.inl rfl) (kdLe.rf _) dX0_isTiedTo_23 ⟨_, rfl, (Eq.symm ((if_neg (fun q0 => q0.1 c4_1)).symm)), rfl⟩
  · refine gc_aloadn C 1 1 dX0_isTiedTo_7 rfl rfl ?_
    refine gc_getI C BX0 50 2 (by decide) rfl ft_50 vf_X0_9 rfl (isC_of (u2 c4_1) (by decide)) dX0_isTiedTo_8 ?_
    refine gc_aloadn C 0 0 dX0_isTiedTo_11 rfl rfl ?_
    refine gc_getI C BX0 50 2 (by decide) rfl ft_50 vf_X0_9 rfl (isC_of u1 (by decide)) dX0_isTiedTo_12 ?_
    refine gc_icmp_ne C 22 dX0_isTiedTo_15 (by decide) (fun c15_2 => ?_) (fun c15_2 => ?_)
    · refine gc_iconst C 0 dX0_isTiedTo_22 (by decide) ?_
      exact gc_zret C E (Or.inl rfl) (kdLe.rf _) dX0_isTiedTo_23 ⟨_, rfl, (Eq.symm ((if_neg (fun q0 => c15_2 q0.2)).symm)), rfl⟩
    · refine gc_iconst C 1 dX0_isTiedTo_18 (by decide) ?_
      refine gc_goto C 23 dX0_isTiedTo_19 (by decide) ?_
      exact gc_zret C E (Or.inr rfl) (kdLe.rf _) dX0_isTiedTo_23 ⟨_, rfl, (Eq.symm ((if_pos ⟨c4_1, c15_2⟩).symm)), rfl⟩
def w_X10_init (B : Nat × Nat) (a0 : Nat) (t : CS) (Q : CS → Prop) (X : String → CS → Prop) : Prop := Q t
set_option maxRecDepth 20000 in
set_option maxHeartbeats 2000000 in
theorem c_X10_init (l : Launch) (D : va_G) (K : Nat → ClassId) (E0 : Nat) (B : Nat × Nat) (A0 : Nat → Prop) (a0 : Nat) (t : CS) (Q : CS → Prop) (X : String → CS → Prop) (h : w_X10_init B a0 t Q X) : MetC l yX10_init cX10_init 1 none 1 [.ref a0] (qV Q) X D K E0 B A0 t := by
  unfold w_X10_init at h
  refine gc_start (by decide) rfl (Nat.le_of_ble_eq_true rfl) (fun p e s m args below meth c C E => ?_)
  refine gc_aloadn C 0 0 dX10_init_0 rfl rfl ?_
  refine gc_objInit C rfl (by decide) vo_X10_1 (Nat.le_of_ble_eq_true rfl) dX10_init_1 ?_
  exact gc_vret C E (kdLe.rf _) dX10_init_4 ⟨rfl, h⟩
def w_X6_newSound (B : Nat × Nat) (a0 : Nat) (a1 : Int32) (a2 : Int32) (a3 : Nat) (t : CS) (Q : Nat → CS → Prop) (X : String → CS → Prop) : Prop := (kdC t a0 = 9) ∧ ∃ J29 : CS → Prop, (∀ t2 : CS, J29 t2 → ((lIn t2 148 a0 (fI t2 149 a0)) ∧ (kdC t2 (lG t2 148 a0 (fI t2 149 a0)) = 13) ∧ ∀ t5 : CS, t5 = usI t2 149 a0 ((fI t2 149 a0) + 1) → ∀ t6 : CS, t6 = usI t5 208 (lG t2 148 a0 (fI t2 149 a0)) a1 → ∀ t7 : CS, t7 = usI t6 209 (lG t2 148 a0 (fI t2 149 a0)) a2 → (kdC t7 a3 = 3) ∧ ∀ t9 : CS, t9 = usI t7 211 (lG t2 148 a0 (fI t2 149 a0)) (fI t7 50 a3) → ∀ t10 : CS, t10 = usI t9 212 (lG t2 148 a0 (fI t2 149 a0)) (fI t9 53 a3) → Q (lG t2 148 a0 (fI t2 149 a0)) t10)) ∧ ((((fI t 149 a0) < (nI (fL t 148 a0).length)) → J29 t) ∧ (¬ ((fI t 149 a0) < (nI (fL t 148 a0).length)) → (szC t + 1 ≤ B.1 ∧ nsC t + cNF 13 ≤ B.2) ∧ ∀ _ : kdC t (szC t) = 0, ∀ t13 : CS, t13 = newO t 13 → w_X10_init B (szC t) t13 (fun t14 => (lOK t14 148 a0) ∧ (kdC t14 (szC t) = 13) ∧ (szC t14 + lcA t14 148 a0 ≤ B.1 ∧ nsC t14 + lcS t14 148 a0 ≤ B.2) ∧ ∀ sz18 ns18 : Nat, szC t14 ≤ sz18 → sz18 ≤ szC t14 + lcA t14 148 a0 → ns18 ≤ nsC t14 + lcS t14 148 a0 → ∀ t19 : CS, t19 = usL t14 148 a0 (fL t14 148 a0 ++ [(szC t)]) (capA t14 148 a0) sz18 ns18 → J29 t19) X))
set_option maxRecDepth 20000 in
set_option maxHeartbeats 2000000 in
theorem c_X6_newSound (l : Launch) (D : va_G) (K : Nat → ClassId) (E0 : Nat) (B : Nat × Nat) (A0 : Nat → Prop) (a0 : Nat) (a1 : Int32) (a2 : Int32) (a3 : Nat) (t : CS) (Q : Nat → CS → Prop) (X : String → CS → Prop) (h : w_X6_newSound B a0 a1 a2 a3 t Q X) : MetC l yX6_newSound cX6_newSound 5 (some (.object RX10)) 7 [.ref a0, .int a1, .int a2, .ref a3] (qR Q) X D K E0 B A0 t := by
  unfold w_X6_newSound at h
  refine gc_start (by decide) rfl (Nat.le_of_ble_eq_true rfl) (fun p e s m args below meth c C E => ?_)
  refine gc_aloadn C 0 0 dX6_newSound_0 rfl rfl ?_
  obtain ⟨g1, h⟩ := h
  refine gc_getI C BX6 149 5 (by decide) rfl ft_149 vf_X6_51 rfl (isC_of g1 (by decide)) dX6_newSound_1 ?_
  refine gc_aloadn C 0 0 dX6_newSound_4 rfl rfl ?_
  refine gc_getE C BX6 148 4 (by decide) rfl fe_148 vf_X6_21 rfl g1 dX6_newSound_5 ?_
  refine gc_lsSize C (ci := 9) (k0 := 4) 148 (by decide) (by decide) (by decide) rfl ft_148 rfl (by decide) g1 vj_X6_155 dX6_newSound_8 (Nat.le_of_ble_eq_true rfl) ?_
  obtain ⟨J29, hJ29, h⟩ := h
  have k29 : ∀ t2 : CS, kdLe t t2 → J29 t2 → GC p l e (rmC 7 B t) s m args below meth c 5 D K E0 B A0 (gc_Q below D K E0 A0 (qR Q) X args s t (rmC 7 B t)) t2 29 [(0, .ref a0), (1, .int a1), (2, .int a2), (3, .ref a3)] [] := by
    intro t2 lt2 h
    have h := hJ29 t2 h
    refine gc_aloadn C 0 0 dX6_newSound_29 rfl rfl ?_
    refine gc_getE C BX6 148 4 (by decide) rfl fe_148 vf_X6_21 rfl (kdLe.k lt2 g1 (by decide) (by decide)) dX6_newSound_30 ?_
    refine gc_aloadn C 0 0 dX6_newSound_33 rfl rfl ?_
    refine gc_getI C BX6 149 5 (by decide) rfl ft_149 vf_X6_51 rfl (isC_of (kdLe.k lt2 g1 (by decide) (by decide)) (by decide)) dX6_newSound_34 ?_
    obtain ⟨g3, h⟩ := h
    refine gc_lsGet C (ci := 9) (k0 := 4) 148 (by decide) (by decide) (by decide) rfl ft_148 rfl (by decide) (kdLe.k lt2 g1 (by decide) (by decide)) g3 vj_X6_78 dX6_newSound_37 (Nat.le_of_ble_eq_true rfl) ?_
    obtain ⟨g4, h⟩ := h
    refine gc_cast C BX10 v_i146 (isC_of g4 (by decide)) dX6_newSound_40 ?_
    refine gc_astore C [(4, .ref (lG t2 148 a0 (fI t2 149 a0))), (0, .ref a0), (1, .int a1), (2, .int a2), (3, .ref a3)] dX6_newSound_43 (by decide) rfl ?_
    refine gc_aloadn C 1 0 dX6_newSound_45 rfl rfl ?_
    refine gc_dup C dX6_newSound_46 rfl ?_
    refine gc_getI C BX6 149 5 (by decide) rfl ft_149 vf_X6_51 rfl (isC_of (kdLe.k lt2 g1 (by decide) (by decide)) (by decide)) dX6_newSound_47 ?_
    refine gc_iconst C 1 dX6_newSound_50 (by decide) ?_
    refine gc_iadd C dX6_newSound_51 ?_
    refine gc_putI C BX6 149 5 (by decide) rfl .int ft_149 vf_X6_51 rfl rfl (by decide +kernel) rfl rfl (isC_of (kdLe.k lt2 g1 (by decide) (by decide)) (by decide)) dX6_newSound_52 ?_
    refine gc_nameS (fun t5 et5 => ?_)
    have h := h t5 et5
    have lt5 : kdLe t2 t5 := kdLe.eq (by rw [et5]; rfl)
    refine gc_aload C 0 dX6_newSound_55 rfl ?_
    refine gc_iloadn C 2 1 dX6_newSound_57 rfl rfl ?_
    refine gc_putI C BX10 208 0 (by decide) rfl .int ft_208 vf_X6_161 rfl rfl (by decide +kernel) rfl rfl (isC_of (kdLe.k lt5 g4 (by decide) (by decide)) (by decide)) dX6_newSound_58 ?_
    refine gc_nameS (fun t6 et6 => ?_)
    have h := h t6 et6
    have lt6 : kdLe t5 t6 := kdLe.eq (by rw [et6]; rfl)
    refine gc_aload C 0 dX6_newSound_61 rfl ?_
    refine gc_iloadn C 3 2 dX6_newSound_63 rfl rfl ?_
    refine gc_putI C BX10 209 1 (by decide) rfl .int ft_209 vf_X6_164 rfl rfl (by decide +kernel) rfl rfl (isC_of (kdLe.k (kdLe.tr lt5 lt6) g4 (by decide) (by decide)) (by decide)) dX6_newSound_64 ?_
    refine gc_nameS (fun t7 et7 => ?_)
    have h := h t7 et7
    have lt7 : kdLe t6 t7 := kdLe.eq (by rw [et7]; rfl)
    refine gc_aload C 0 dX6_newSound_67 rfl ?_
    refine gc_aloadn C 4 3 dX6_newSound_69 rfl rfl ?_
    obtain ⟨g8, h⟩ := h
    refine gc_getI C BX0 50 2 (by decide) rfl ft_50 vf_X6_167 rfl (isC_of g8 (by decide)) dX6_newSound_70 ?_
    refine gc_putI C BX10 211 3 (by decide) rfl .int ft_211 vf_X6_170 rfl rfl (by decide +kernel) rfl rfl (isC_of (kdLe.k (kdLe.tr lt5 (kdLe.tr lt6 lt7)) g4 (by decide) (by decide)) (by decide)) dX6_newSound_73 ?_
    refine gc_nameS (fun t9 et9 => ?_)
    have h := h t9 et9
    have lt9 : kdLe t7 t9 := kdLe.eq (by rw [et9]; rfl)
    refine gc_aload C 0 dX6_newSound_76 rfl ?_
    refine gc_aloadn C 4 3 dX6_newSound_78 rfl rfl ?_
    refine gc_getI C BX0 53 5 (by decide) rfl ft_53 vf_X6_171 rfl (isC_of (kdLe.k lt9 g8 (by decide) (by decide)) (by decide)) dX6_newSound_79 ?_
    refine gc_putI C BX10 212 4 (by decide) rfl .int ft_212 vf_X6_174 rfl rfl (by decide +kernel) rfl rfl (isC_of (kdLe.k (kdLe.tr lt5 (kdLe.tr lt6 (kdLe.tr lt7 lt9))) g4 (by decide) (by decide)) (by decide)) dX6_newSound_82 ?_
    refine gc_nameS (fun t10 et10 => ?_)
    have h := h t10 et10
    have lt10 : kdLe t9 t10 := kdLe.eq (by rw [et10]; rfl)
    refine gc_aload C 0 dX6_newSound_85 rfl ?_
    refine gc_ret0 ?_
    exact gc_aret (v := some (lG t2 148 a0 (fI t2 149 a0))) C E (kdLe.tr lt2 (kdLe.tr lt5 (kdLe.tr lt6 (kdLe.tr lt7 (kdLe.tr lt9 lt10))))) dX6_newSound_87 ⟨_, rfl, h⟩
  refine gc_icmp_lt C 29 dX6_newSound_11 (by decide) (fun c11_1 => ?_) (fun c11_1 => ?_)
  · have h := h.1 c11_1
    exact k29 t (kdLe.rf _) h
  · have h := h.2 c11_1
    refine gc_aloadn C 0 0 dX6_newSound_14 rfl rfl ?_
    refine gc_getE C BX6 148 4 (by decide) rfl fe_148 vf_X6_21 rfl g1 dX6_newSound_15 ?_
    obtain ⟨g11, h⟩ := h
    refine gc_new C BX10 hd_X10 vn_X6_29 g11 dX6_newSound_18 (fun hz12 => ?_)
    have h := h hz12
    refine gc_nameS (fun t13 et13 => ?_)
    have h := h t13 et13
    have lt13 : kdLe t t13 := by rw [et13]; exact newO_le hz12
    refine gc_dup C dX6_newSound_21 rfl ?_
    refine gc_callIN C (y := yX10_init) (as := []) (host := "ScoreHouse") rfl (by decide) (by decide) (c_X10_init l D K E0 B A0 (szC t) t13 _ X h) hk_X10_init rfl rfl n_i349 vl_X6_156 kc_X10_init dX6_newSound_22 (Nat.le_of_ble_eq_true rfl) (fun _ _ h => h) (qkV (fun t14 h lt14 => ?_))
    obtain ⟨g15, h⟩ := h
    obtain ⟨g16, h⟩ := h
    obtain ⟨g17, h⟩ := h
    refine gc_lsAdd C (ci := 9) (k0 := 4) 148 (by decide) (by decide) (by decide) rfl ft_148 rfl (by decide) (ce := 13) (rr := (RX10, TX10, 5)) (by decide +kernel) (by decide) (by decide) rfl n_i1720 (kdLe.k (kdLe.tr lt13 lt14) g1 (by decide) (by decide)) g15 g16 g17 vj_X6_157 dX6_newSound_25 (Nat.le_of_ble_eq_true rfl) (fun sz18 ns18 y18a y18b y18c => ?_)
    have h := h sz18 ns18 y18a y18b y18c
    refine gc_nameS (fun t19 et19 => ?_)
    have h := h t19 et19
    have lt19 : kdLe t14 t19 := kdLe.eq (by rw [et19]; rfl)
    refine gc_pop C dX6_newSound_28 rfl ?_
    exact k29 t19 (kdLe.tr lt13 (kdLe.tr lt14 lt19)) h
def w_X6_playEvent (B : Nat × Nat) (a0 : Nat) (a1 : Nat) (a2 : Int32) (a3 : Int32) (a4 : Int32) (t : CS) (Q : CS → Prop) (X : String → CS → Prop) : Prop := (kdC t a0 = 9) ∧ (vp_in a3 (cLN 152)) ∧ ∀ x3 : Int32, x3 = (fA t 152 a0 (Int32.toNatClampNeg a3)) → (vp_in a2 (cLN 144)) ∧ (kdC t a1 = 12) ∧ (d_X9_row a1 a3 (fA t 144 a0 (Int32.toNatClampNeg a2)) t) ∧ (kdC t (v_X9_row a1 a3 (fA t 144 a0 (Int32.toNatClampNeg a2)) t) = 11) ∧ (d_X8_get (v_X9_row a1 a3 (fA t 144 a0 (Int32.toNatClampNeg a2)) t) x3 t) ∧ (vp_in a2 (cLN 145)) ∧ (vp_in a3 (cLN 153)) ∧ (d_X9_timeOf (fA t 153 a0 (Int32.toNatClampNeg a3)) a4) ∧ ∀ x12 : Int32, x12 = ((fA t 145 a0 (Int32.toNatClampNeg a2)) + (v_X9_timeOf (fA t 153 a0 (Int32.toNatClampNeg a3)) a4)) → (vp_in a3 (cLN 153)) ∧ (kdC t (v_X8_get (v_X9_row a1 a3 (fA t 144 a0 (Int32.toNatClampNeg a2)) t) x3 t) = 3) ∧ (vp_in a3 (cLN 153)) ∧ ∀ t16 : CS, t16 = usA t 153 a0 a3 ((fA t 153 a0 (Int32.toNatClampNeg a3)) + (fI t 48 (v_X8_get (v_X9_row a1 a3 (fA t 144 a0 (Int32.toNatClampNeg a2)) t) x3 t))) → (vp_in a3 (cLN 152)) ∧ (vp_in a3 (cLN 152)) ∧ ∀ t19 : CS, t19 = usA t16 152 a0 a3 ((fA t16 152 a0 (Int32.toNatClampNeg a3)) + 1) → (d_X0_isNote (v_X8_get (v_X9_row a1 a3 (fA t 144 a0 (Int32.toNatClampNeg a2)) t) x3 t) t19) ∧ (((v_X0_isNote (v_X8_get (v_X9_row a1 a3 (fA t 144 a0 (Int32.toNatClampNeg a2)) t) x3 t) t19) = 0) → Q t19) ∧ (¬ ((v_X0_isNote (v_X8_get (v_X9_row a1 a3 (fA t 144 a0 (Int32.toNatClampNeg a2)) t) x3 t) t19) = 0) → (d_X6_eventAhead a0 a1 a2 a3 x3 t19) ∧ ∀ x22 : Option Nat, x22 = (v_X6_eventAhead a0 a1 a2 a3 x3 t19) → ((¬ (x22 = none)) → x22 ≠ none) ∧ ((¬ (x22 = none)) → kdC t19 (oG x22) = 3) ∧ ((¬ (x22 = none)) → d_X0_isTiedTo (oG x22) (v_X8_get (v_X9_row a1 a3 (fA t 144 a0 (Int32.toNatClampNeg a2)) t) x3 t) t19) ∧ ((¬ (x22 = none)) → (¬ ((v_X0_isTiedTo (oG x22) (v_X8_get (v_X9_row a1 a3 (fA t 144 a0 (Int32.toNatClampNeg a2)) t) x3 t) t19) = 0)) → vp_in a3 (cLN 151)) ∧ ∀ x23 : Int32, x23 = (if (¬ (x22 = none)) ∧ ((¬ ((v_X0_isTiedTo (oG x22) (v_X8_get (v_X9_row a1 a3 (fA t 144 a0 (Int32.toNatClampNeg a2)) t) x3 t) t19) = 0)) ∧ (¬ ((fQ t19 151 a0 (Int32.toNatClampNeg a3)) = none))) then 1 else 0) → ∃ J144 : Nat → CS → Prop, (∀ x28 : Nat, ∀ t29 : CS, J144 x28 t29 → ((vp_in a2 (cLN 145)) ∧ (vp_in a3 (cLN 153)) ∧ (d_X9_timeOf (fA t29 153 a0 (Int32.toNatClampNeg a3)) a4) ∧ (kdC t29 x28 = 13) ∧ ∀ t34 : CS, t34 = usI t29 210 x28 ((fA t29 145 a0 (Int32.toNatClampNeg a2)) + (v_X9_timeOf (fA t29 153 a0 (Int32.toNatClampNeg a3)) a4)) → (vp_in a3 (cLN 151)) ∧ ∀ t36 : CS, t36 = usQ t34 151 a0 a3 (some x28) → Q t36)) ∧ (((x23 = 0) → w_X6_newSound B a0 a3 x12 (v_X8_get (v_X9_row a1 a3 (fA t 144 a0 (Int32.toNatClampNeg a2)) t) x3 t) t19 (fun r37 t37 => J144 r37 t37) X) ∧ (¬ (x23 = 0) → (vp_in a3 (cLN 151)) ∧ ((fQ t19 151 a0 (Int32.toNatClampNeg a3)) ≠ none) ∧ J144 (oG (fQ t19 151 a0 (Int32.toNatClampNeg a3))) t19)))
set_option maxRecDepth 20000 in
set_option maxHeartbeats 2000000 in
theorem c_X6_playEvent (l : Launch) (D : va_G) (K : Nat → ClassId) (E0 : Nat) (B : Nat × Nat) (A0 : Nat → Prop) (a0 : Nat) (a1 : Nat) (a2 : Int32) (a3 : Int32) (a4 : Int32) (t : CS) (Q : CS → Prop) (X : String → CS → Prop) (h : w_X6_playEvent B a0 a1 a2 a3 a4 t Q X) : MetC l yX6_playEvent cX6_playEvent 11 none 8 [.ref a0, .ref a1, .int a2, .int a3, .int a4] (qV Q) X D K E0 B A0 t := by
  unfold w_X6_playEvent at h
  refine gc_start (by decide) rfl (Nat.le_of_ble_eq_true rfl) (fun p e s m args below meth c C E => ?_)
  refine gc_aloadn C 0 0 dX6_playEvent_0 rfl rfl ?_
  obtain ⟨g1, h⟩ := h
  refine gc_getE C BX6 152 8 (by decide) rfl fe_152 vf_X6_35 rfl g1 dX6_playEvent_1 ?_
  refine gc_iloadn C 3 3 dX6_playEvent_4 rfl rfl ?_
  obtain ⟨g2, h⟩ := h
  refine gc_iald C (ci := 9) (k0 := 8) 152 (by decide) (by decide) (by decide) rfl ft_152 (by decide) g1 g2 dX6_playEvent_5 ?_
  refine gc_nameI (fun x3 ex3 => ?_)
  have h := h x3 ex3
  refine gc_istore C [(5, .int x3), (0, .ref a0), (1, .ref a1), (2, .int a2), (3, .int a3), (4, .int a4)] dX6_playEvent_6 (by decide) rfl ?_
  refine gc_aloadn C 2 1 dX6_playEvent_8 rfl rfl ?_
  refine gc_iloadn C 4 3 dX6_playEvent_9 rfl rfl ?_
  refine gc_aloadn C 1 0 dX6_playEvent_10 rfl rfl ?_
  refine gc_getE C BX6 144 0 (by decide) rfl fe_144 vf_X6_11 rfl g1 dX6_playEvent_11 ?_
  refine gc_iloadn C 3 2 dX6_playEvent_14 rfl rfl ?_
  obtain ⟨g4, h⟩ := h
  refine gc_iald C (ci := 9) (k0 := 0) 144 (by decide) (by decide) (by decide) rfl ft_144 (by decide) g1 g4 dX6_playEvent_15 ?_
  obtain ⟨g5, h⟩ := h
  obtain ⟨g6, h⟩ := h
  refine gc_callV C BX9 (y := yX9_row) (as := [.int a3, .int (fA t 144 a0 (Int32.toNatClampNeg a2))]) rfl (by decide) (by decide) (c_X9_row l D K E0 B A0 a1 a3 (fA t 144 a0 (Int32.toNatClampNeg a2)) t g6) hk_X9_row rfl vl_X6_119 kc_X9_row (isC_of g5 (by decide)) dX6_playEvent_16 (Nat.le_of_ble_eq_true rfl) (fun _ _ h => h.elim) (qkRP ?_)
  refine gc_iload C 0 dX6_playEvent_19 rfl ?_
  obtain ⟨g7, h⟩ := h
  obtain ⟨g8, h⟩ := h
  refine gc_callV C BX8 (y := yX8_get) (as := [.int x3]) rfl (by decide) (by decide) (c_X8_get l D K E0 B A0 (v_X9_row a1 a3 (fA t 144 a0 (Int32.toNatClampNeg a2)) t) x3 t g8) hk_X8_get rfl vl_X6_123 kc_X8_get (isC_of g7 (by decide)) dX6_playEvent_21 (Nat.le_of_ble_eq_true rfl) (fun _ _ h => h.elim) (qkRP ?_)
  refine gc_astore C [(6, .ref (v_X8_get (v_X9_row a1 a3 (fA t 144 a0 (Int32.toNatClampNeg a2)) t) x3 t)), (5, .int x3), (0, .ref a0), (1, .ref a1), (2, .int a2), (3, .int a3), (4, .int a4)] dX6_playEvent_24 (by decide) rfl ?_
  refine gc_aloadn C 2 0 dX6_playEvent_26 rfl rfl ?_
  refine gc_getE C BX6 145 1 (by decide) rfl fe_145 vf_X6_15 rfl g1 dX6_playEvent_27 ?_
  refine gc_iloadn C 4 2 dX6_playEvent_30 rfl rfl ?_
  obtain ⟨g9, h⟩ := h
  refine gc_iald C (ci := 9) (k0 := 1) 145 (by decide) (by decide) (by decide) rfl ft_145 (by decide) g1 g9 dX6_playEvent_31 ?_
  refine gc_aloadn C 2 0 dX6_playEvent_32 rfl rfl ?_
  refine gc_getE C BX6 153 9 (by decide) rfl fe_153 vf_X6_38 rfl g1 dX6_playEvent_33 ?_
  refine gc_iloadn C 5 3 dX6_playEvent_36 rfl rfl ?_
  obtain ⟨g10, h⟩ := h
  refine gc_iald C (ci := 9) (k0 := 9) 153 (by decide) (by decide) (by decide) rfl ft_153 (by decide) g1 g10 dX6_playEvent_37 ?_
  refine gc_iload C 6 dX6_playEvent_38 rfl ?_
  obtain ⟨g11, h⟩ := h
  refine gc_callS C (y := yX9_timeOf) (as := [.int (fA t 153 a0 (Int32.toNatClampNeg a3)), .int a4]) rfl (by decide) (by decide) (c_X9_timeOf l D K E0 B A0 (fA t 153 a0 (Int32.toNatClampNeg a3)) a4 t g11) hk_X9_timeOf rfl vl_X6_126 kc_X9_timeOf dX6_playEvent_40 (Nat.le_of_ble_eq_true rfl) (fun _ _ h => h.elim) (qkIP ?_)
  refine gc_iadd C dX6_playEvent_43 ?_
  refine gc_nameI (fun x12 ex12 => ?_)
  have h := h x12 ex12
  refine gc_istore C [(7, .int x12), (6, .ref (v_X8_get (v_X9_row a1 a3 (fA t 144 a0 (Int32.toNatClampNeg a2)) t) x3 t)), (5, .int x3), (0, .ref a0), (1, .ref a1), (2, .int a2), (3, .int a3), (4, .int a4)] dX6_playEvent_44 (by decide) rfl ?_
  refine gc_aloadn C 3 0 dX6_playEvent_46 rfl rfl ?_
  refine gc_getE C BX6 153 9 (by decide) rfl fe_153 vf_X6_38 rfl g1 dX6_playEvent_47 ?_
  refine gc_iloadn C 6 3 dX6_playEvent_50 rfl rfl ?_
  refine gc_dup2 C dX6_playEvent_51 rfl rfl ?_
  obtain ⟨g13, h⟩ := h
  refine gc_iald C (ci := 9) (k0 := 9) 153 (by decide) (by decide) (by decide) rfl ft_153 (by decide) g1 g13 dX6_playEvent_52 ?_
  refine gc_aload C 1 dX6_playEvent_53 rfl ?_
  obtain ⟨g14, h⟩ := h
  refine gc_getI C BX0 48 0 (by decide) rfl ft_48 vf_X6_130 rfl (isC_of g14 (by decide)) dX6_playEvent_55 ?_
  refine gc_iadd C dX6_playEvent_58 ?_
  obtain ⟨g15, h⟩ := h
  refine gc_iast C (ci := 9) (k0 := 9) 153 (by decide) (by decide) (by decide) rfl ft_153 (by decide) g1 g15 dX6_playEvent_59 ?_
  refine gc_nameS (fun t16 et16 => ?_)
  have h := h t16 et16
  have lt16 : kdLe t t16 := kdLe.eq (by rw [et16]; rfl)
  refine gc_aloadn C 3 0 dX6_playEvent_60 rfl rfl ?_
  refine gc_getE C BX6 152 8 (by decide) rfl fe_152 vf_X6_35 rfl (kdLe.k lt16 g1 (by decide) (by decide)) dX6_playEvent_61 ?_
  refine gc_iloadn C 6 3 dX6_playEvent_64 rfl rfl ?_
  refine gc_dup2 C dX6_playEvent_65 rfl rfl ?_
  obtain ⟨g17, h⟩ := h
  refine gc_iald C (ci := 9) (k0 := 8) 152 (by decide) (by decide) (by decide) rfl ft_152 (by decide) (kdLe.k lt16 g1 (by decide) (by decide)) g17 dX6_playEvent_66 ?_
  refine gc_iconst C 1 dX6_playEvent_67 (by decide) ?_
  refine gc_iadd C dX6_playEvent_68 ?_
  obtain ⟨g18, h⟩ := h
  refine gc_iast C (ci := 9) (k0 := 8) 152 (by decide) (by decide) (by decide) rfl ft_152 (by decide) (kdLe.k lt16 g1 (by decide) (by decide)) g18 dX6_playEvent_69 ?_
  refine gc_nameS (fun t19 et19 => ?_)
  have h := h t19 et19
  have lt19 : kdLe t16 t19 := kdLe.eq (by rw [et19]; rfl)
  refine gc_aload C 1 dX6_playEvent_70 rfl ?_
  obtain ⟨g20, h⟩ := h
  refine gc_callV C BX0 (y := yX0_isNote) (as := []) rfl (by decide) (by decide) (c_X0_isNote l D K E0 B A0 (v_X8_get (v_X9_row a1 a3 (fA t 144 a0 (Int32.toNatClampNeg a2)) t) x3 t) t19 g20) hk_X0_isNote rfl vl_X6_135 kc_X0_isNote (isC_of (kdLe.k (kdLe.tr lt16 lt19) g14 (by decide) (by decide)) (by decide)) dX6_playEvent_72 (Nat.le_of_ble_eq_true rfl) (fun _ _ h => h.elim) (qkIP ?_)
  refine gc_if_ne C 79 dX6_playEvent_75 (by decide) (fun c75_1 => ?_) (fun c75_1 => ?_)
  · have h := h.2 c75_1
    refine gc_aloadn C 3 0 dX6_playEvent_79 rfl rfl ?_
    refine gc_aloadn C 4 1 dX6_playEvent_80 rfl rfl ?_
    refine gc_iloadn C 5 2 dX6_playEvent_81 rfl rfl ?_
    refine gc_iloadn C 6 3 dX6_playEvent_82 rfl rfl ?_
    refine gc_iload C 2 dX6_playEvent_83 rfl ?_
    obtain ⟨g21, h⟩ := h
    refine gc_callV C BX6 (y := yX6_eventAhead) (as := [.ref a1, .int a2, .int a3, .int x3]) rfl (by decide) (by decide) (c_X6_eventAhead l D K E0 B A0 a0 a1 a2 a3 x3 t19 g21) hk_X6_eventAhead rfl vl_X6_139 kc_X6_eventAhead (isC_of (kdLe.k (kdLe.tr lt16 lt19) g1 (by decide) (by decide)) (by decide)) dX6_playEvent_85 (Nat.le_of_ble_eq_true rfl) (fun _ _ h => h.elim) (qkOP ?_)
    refine gc_nameO (fun x22 ex22 => ?_)
    have h := h x22 ex22
    refine gc_astoreO C [(8, va_rf x22), (7, .int x12), (6, .ref (v_X8_get (v_X9_row a1 a3 (fA t 144 a0 (Int32.toNatClampNeg a2)) t) x3 t)), (5, .int x3), (0, .ref a0), (1, .ref a1), (2, .int a2), (3, .int a3), (4, .int a4)] dX6_playEvent_88 (by decide) rfl ?_
    refine gc_aloadO C 0 dX6_playEvent_90 rfl ?_
    obtain ⟨g24, h⟩ := h
    obtain ⟨g25, h⟩ := h
    obtain ⟨g26, h⟩ := h
    obtain ⟨g27, h⟩ := h
    have k119 : ∀ x23 : Int32, x23 = (if (¬ (x22 = none)) ∧ ((¬ ((v_X0_isTiedTo (oG x22) (v_X8_get (v_X9_row a1 a3 (fA t 144 a0 (Int32.toNatClampNeg a2)) t) x3 t) t19) = 0)) ∧ (¬ ((fQ t19 151 a0 (Int32.toNatClampNeg a3)) = none))) then 1 else 0) → GC p l e (rmC 8 B t) s m args below meth c 11 D K E0 B A0 (gc_Q below D K E0 A0 (qV Q) X args s t (rmC 8 B t)) t19 119 [(0, .ref a0), (2, .int a2), (3, .int a3), (4, .int a4), (6, .ref (v_X8_get (v_X9_row a1 a3 (fA t 144 a0 (Int32.toNatClampNeg a2)) t) x3 t)), (7, .int x12)] [.int x23] := by
      intro x23 ex23
      have h := h x23 ex23
      refine gc_istore C [(9, .int x23), (0, .ref a0), (2, .int a2), (3, .int a3), (4, .int a4), (6, .ref (v_X8_get (v_X9_row a1 a3 (fA t 144 a0 (Int32.toNatClampNeg a2)) t) x3 t)), (7, .int x12)] dX6_playEvent_119 (by decide) rfl ?_
      refine gc_iload C 0 dX6_playEvent_121 rfl ?_
      obtain ⟨J144, hJ144, h⟩ := h
      have k144 : ∀ x28 : Nat, ∀ t29 : CS, kdLe t19 t29 → J144 x28 t29 → GC p l e (rmC 8 B t) s m args below meth c 11 D K E0 B A0 (gc_Q below D K E0 A0 (qV Q) X args s t (rmC 8 B t)) t29 144 [(0, .ref a0), (2, .int a2), (3, .int a3), (4, .int a4)] [.ref x28] := by
        intro x28 t29 lt29 h
        have h := hJ144 x28 t29 h
        refine gc_astore C [(10, .ref x28), (0, .ref a0), (2, .int a2), (3, .int a3), (4, .int a4)] dX6_playEvent_144 (by decide) rfl ?_
        refine gc_aload C 0 dX6_playEvent_146 rfl ?_
        refine gc_aloadn C 1 0 dX6_playEvent_148 rfl rfl ?_
        refine gc_getE C BX6 145 1 (by decide) rfl fe_145 vf_X6_15 rfl (kdLe.k (kdLe.tr lt16 (kdLe.tr lt19 lt29)) g1 (by decide) (by decide)) dX6_playEvent_149 ?_
        refine gc_iloadn C 2 2 dX6_playEvent_152 rfl rfl ?_
        obtain ⟨g30, h⟩ := h
        refine gc_iald C (ci := 9) (k0 := 1) 145 (by decide) (by decide) (by decide) rfl ft_145 (by decide) (kdLe.k (kdLe.tr lt16 (kdLe.tr lt19 lt29)) g1 (by decide) (by decide)) g30 dX6_playEvent_153 ?_
        refine gc_aloadn C 1 0 dX6_playEvent_154 rfl rfl ?_
        refine gc_getE C BX6 153 9 (by decide) rfl fe_153 vf_X6_38 rfl (kdLe.k (kdLe.tr lt16 (kdLe.tr lt19 lt29)) g1 (by decide) (by decide)) dX6_playEvent_155 ?_
        refine gc_iloadn C 3 3 dX6_playEvent_158 rfl rfl ?_
        obtain ⟨g31, h⟩ := h
        refine gc_iald C (ci := 9) (k0 := 9) 153 (by decide) (by decide) (by decide) rfl ft_153 (by decide) (kdLe.k (kdLe.tr lt16 (kdLe.tr lt19 lt29)) g1 (by decide) (by decide)) g31 dX6_playEvent_159 ?_
        refine gc_iload C 4 dX6_playEvent_160 rfl ?_
        obtain ⟨g32, h⟩ := h
        refine gc_callS C (y := yX9_timeOf) (as := [.int (fA t29 153 a0 (Int32.toNatClampNeg a3)), .int a4]) rfl (by decide) (by decide) (c_X9_timeOf l D K E0 B A0 (fA t29 153 a0 (Int32.toNatClampNeg a3)) a4 t29 g32) hk_X9_timeOf rfl vl_X6_126 kc_X9_timeOf dX6_playEvent_162 (Nat.le_of_ble_eq_true rfl) (fun _ _ h => h.elim) (qkIP ?_)
        refine gc_iadd C dX6_playEvent_165 ?_
        obtain ⟨g33, h⟩ := h
        refine gc_putI C BX10 210 2 (by decide) rfl .int ft_210 vf_X6_151 rfl rfl (by decide +kernel) rfl rfl (isC_of g33 (by decide)) dX6_playEvent_166 ?_
        refine gc_nameS (fun t34 et34 => ?_)
        have h := h t34 et34
        have lt34 : kdLe t29 t34 := kdLe.eq (by rw [et34]; rfl)
        refine gc_aloadn C 1 0 dX6_playEvent_169 rfl rfl ?_
        refine gc_getE C BX6 151 7 (by decide) rfl fe_151 vf_X6_31 rfl (kdLe.k (kdLe.tr lt16 (kdLe.tr lt19 (kdLe.tr lt29 lt34))) g1 (by decide) (by decide)) dX6_playEvent_170 ?_
        refine gc_iloadn C 3 3 dX6_playEvent_173 rfl rfl ?_
        refine gc_aload C 0 dX6_playEvent_174 rfl ?_
        obtain ⟨g35, h⟩ := h
        refine gc_qast C (ci := 9) (k0 := 7) 151 (by decide) (by decide) (by decide) rfl (r := (RX10, TX10, 5)) 5 rfl rfl (by decide) (by decide) (isC_of (kdLe.k lt34 g33 (by decide) (by decide)) (by decide)) ft_151 (by decide) (kdLe.k (kdLe.tr lt16 (kdLe.tr lt19 (kdLe.tr lt29 lt34))) g1 (by decide) (by decide)) g35 dX6_playEvent_176 ?_
        refine gc_nameS (fun t36 et36 => ?_)
        have h := h t36 et36
        have lt36 : kdLe t34 t36 := kdLe.eq (by rw [et36]; rfl)
        exact gc_vret C E (kdLe.tr lt16 (kdLe.tr lt19 (kdLe.tr lt29 (kdLe.tr lt34 lt36)))) dX6_playEvent_177 ⟨rfl, h⟩
      refine gc_if_eq C 135 dX6_playEvent_123 (by decide) (fun c123_5 => ?_) (fun c123_5 => ?_)
      · have h := h.1 c123_5
        refine gc_aloadn C 1 0 dX6_playEvent_135 rfl rfl ?_
        refine gc_iloadn C 3 3 dX6_playEvent_136 rfl rfl ?_
        refine gc_iload C 6 dX6_playEvent_137 rfl ?_
        refine gc_aload C 5 dX6_playEvent_139 rfl ?_
        refine gc_callV C BX6 (y := yX6_newSound) (as := [.int a3, .int x12, .ref (v_X8_get (v_X9_row a1 a3 (fA t 144 a0 (Int32.toNatClampNeg a2)) t) x3 t)]) rfl (by decide) (by decide) (c_X6_newSound l D K E0 B A0 a0 a3 x12 (v_X8_get (v_X9_row a1 a3 (fA t 144 a0 (Int32.toNatClampNeg a2)) t) x3 t) t19 _ X h) hk_X6_newSound rfl vl_X6_147 kc_X6_newSound (isC_of (kdLe.k (kdLe.tr lt16 lt19) g1 (by decide) (by decide)) (by decide)) dX6_playEvent_141 (Nat.le_of_ble_eq_true rfl) (fun _ _ h => h) (qkR (fun r37 t37 h lt37 => ?_))
        refine gc_sub [1, 2, 3, 4] rfl ?_
        exact k144 r37 t37 lt37 h
      · have h := h.2 c123_5
        refine gc_aloadn C 1 0 dX6_playEvent_126 rfl rfl ?_
        refine gc_getE C BX6 151 7 (by decide) rfl fe_151 vf_X6_31 rfl (kdLe.k (kdLe.tr lt16 lt19) g1 (by decide) (by decide)) dX6_playEvent_127 ?_
        refine gc_iloadn C 3 3 dX6_playEvent_130 rfl rfl ?_
        obtain ⟨g38, h⟩ := h
        refine gc_qald C (ci := 9) (k0 := 7) 151 (by decide) (by decide) (by decide) rfl (CQ := RX10) 5 rfl ft_151 (by decide) (kdLe.k (kdLe.tr lt16 lt19) g1 (by decide) (by decide)) g38 dX6_playEvent_131 ?_
        obtain ⟨g39, h⟩ := h
        refine gc_deref g39 ?_
        refine gc_goto C 144 dX6_playEvent_132 (by decide) ?_
        refine gc_sub [1, 2, 3, 4] rfl ?_
        exact k144 (oG (fQ t19 151 a0 (Int32.toNatClampNeg a3))) t19 (kdLe.rf _) h
    refine gc_ifnull C 118 dX6_playEvent_92 (by decide) (fun c92_2 => ?_) (fun c92_2 => ?_)
    · refine gc_iconst C 0 dX6_playEvent_118 (by decide) ?_
      refine gc_sub [4, 6, 7, 8, 2, 1] rfl ?_
      exact k119 _ ((if_neg (fun q0 => q0.1 c92_2)).symm)
    · refine gc_aloadO C 0 dX6_playEvent_95 rfl ?_
      refine gc_deref (g24 c92_2) ?_
      refine gc_aload C 2 dX6_playEvent_97 rfl ?_
      refine gc_callV C BX0 (y := yX0_isTiedTo) (as := [.ref (v_X8_get (v_X9_row a1 a3 (fA t 144 a0 (Int32.toNatClampNeg a2)) t) x3 t)]) rfl (by decide) (by decide) (c_X0_isTiedTo l D K E0 B A0 (oG x22) (v_X8_get (v_X9_row a1 a3 (fA t 144 a0 (Int32.toNatClampNeg a2)) t) x3 t) t19 (g26 c92_2)) hk_X0_isTiedTo rfl vl_X6_143 kc_X0_isTiedTo (isC_of (g25 c92_2) (by decide)) dX6_playEvent_99 (Nat.le_of_ble_eq_true rfl) (fun _ _ h => h.elim) (qkIP ?_)
      refine gc_if_eq C 118 dX6_playEvent_102 (by decide) (fun c102_3 => ?_) (fun c102_3 => ?_)
      · refine gc_iconst C 0 dX6_playEvent_118 (by decide) ?_
        refine gc_sub [4, 6, 7, 8, 2, 1] rfl ?_
        exact k119 _ ((if_neg (fun q0 => (fun q1 => q1.1 c102_3) q0.2)).symm)
      · refine gc_aloadn C 4 0 dX6_playEvent_105 rfl rfl ?_
        refine gc_getE C BX6 151 7 (by decide) rfl fe_151 vf_X6_31 rfl (kdLe.k (kdLe.tr lt16 lt19) g1 (by decide) (by decide)) dX6_playEvent_106 ?_
        refine gc_iloadn C 7 3 dX6_playEvent_109 rfl rfl ?_
        refine gc_qald C (ci := 9) (k0 := 7) 151 (by decide) (by decide) (by decide) rfl (CQ := RX10) 5 rfl ft_151 (by decide) (kdLe.k (kdLe.tr lt16 lt19) g1 (by decide) (by decide)) (g27 c92_2 c102_3) dX6_playEvent_110 ?_
        refine gc_ifnull C 118 dX6_playEvent_111 (by decide) (fun c111_4 => ?_) (fun c111_4 => ?_)
        · refine gc_iconst C 0 dX6_playEvent_118 (by decide) ?_
          refine gc_sub [4, 6, 7, 8, 2, 1] rfl ?_
          exact k119 _ ((if_neg (fun q0 => (fun q1 => (fun q2 => q2 c111_4) q1.2) q0.2)).symm)
        · refine gc_iconst C 1 dX6_playEvent_114 (by decide) ?_
          refine gc_goto C 119 dX6_playEvent_115 (by decide) ?_
          refine gc_sub [4, 6, 7, 8, 2, 1] rfl ?_
          exact k119 _ ((if_pos ⟨c92_2, ⟨c102_3, c111_4⟩⟩).symm)
  · have h := h.1 c75_1
    exact gc_vret C E (kdLe.tr lt16 lt19) dX6_playEvent_78 ⟨rfl, h⟩
def w_X6_playPlace_L57 (B : Nat × Nat) (a0 : Nat) (a1 : Nat) (a2 : Int32) (t : CS) (Q : CS → Prop) (X : String → CS → Prop) (r6 : Int32) (K57 : (Int32 × CS) → Prop) (z57 : Int32 × CS) : Prop := ((64 ≤ z57.1) → Q z57.2) ∧ (¬ (64 ≤ z57.1) → w_X6_nextVoice B a0 (v_X9_measure a1 (fA t 144 a0 (Int32.toNatClampNeg a2)) t) z57.2 (fun r7 t7 => ((r7 = (-1)) → Q t7) ∧ (¬ (r7 = (-1)) → w_X6_playEvent B a0 a1 a2 r7 r6 t7 (fun t8 => K57 ((z57.1 + 1), t8)) X)) X)
def w_X6_playPlace_L26 (B : Nat × Nat) (a0 : Nat) (a1 : Nat) (a2 : Int32) (t : CS) (Q : CS → Prop) (X : String → CS → Prop) (r6 : Int32) (K26 : (Int32 × CS) → Prop) (z26 : Int32 × CS) : Prop := ((4 ≤ z26.1) → ∃ n, lp (w_X6_playPlace_L57 B a0 a1 a2 t Q X r6) n (0, z26.2)) ∧ (¬ (4 ≤ z26.1) → (vp_in z26.1 (cLN 152)) ∧ ∀ t10 : CS, t10 = usA z26.2 152 a0 z26.1 0 → (vp_in z26.1 (cLN 153)) ∧ ∀ t12 : CS, t12 = usA t10 153 a0 z26.1 0 → K26 ((z26.1 + 1), t12))
def w_X6_playPlace (B : Nat × Nat) (a0 : Nat) (a1 : Nat) (a2 : Int32) (t : CS) (Q : CS → Prop) (X : String → CS → Prop) : Prop := (kdC t a0 = 9) ∧ (vp_in a2 (cLN 144)) ∧ (kdC t a1 = 12) ∧ (d_X9_measure a1 (fA t 144 a0 (Int32.toNatClampNeg a2)) t) ∧ (vp_in a2 (cLN 144)) ∧ w_X9_tempoAt B a1 (fA t 144 a0 (Int32.toNatClampNeg a2)) t (fun r6 t6 => ∃ n, lp (w_X6_playPlace_L26 B a0 a1 a2 t Q X r6) n (0, t6)) X
set_option maxRecDepth 20000 in
set_option maxHeartbeats 2000000 in
theorem c_X6_playPlace (l : Launch) (D : va_G) (K : Nat → ClassId) (E0 : Nat) (B : Nat × Nat) (A0 : Nat → Prop) (a0 : Nat) (a1 : Nat) (a2 : Int32) (t : CS) (Q : CS → Prop) (X : String → CS → Prop) (h : w_X6_playPlace B a0 a1 a2 t Q X) : MetC l yX6_playPlace cX6_playPlace 7 none 9 [.ref a0, .ref a1, .int a2] (qV Q) X D K E0 B A0 t := by
  unfold w_X6_playPlace at h
  refine gc_start (by decide) rfl (Nat.le_of_ble_eq_true rfl) (fun p e s m args below meth c C E => ?_)
  refine gc_aloadn C 1 1 dX6_playPlace_0 rfl rfl ?_
  refine gc_aloadn C 0 0 dX6_playPlace_1 rfl rfl ?_
  obtain ⟨g1, h⟩ := h
  refine gc_getE C BX6 144 0 (by decide) rfl fe_144 vf_X6_11 rfl g1 dX6_playPlace_2 ?_
  refine gc_iloadn C 2 2 dX6_playPlace_5 rfl rfl ?_
  obtain ⟨g2, h⟩ := h
  refine gc_iald C (ci := 9) (k0 := 0) 144 (by decide) (by decide) (by decide) rfl ft_144 (by decide) g1 g2 dX6_playPlace_6 ?_
  obtain ⟨g3, h⟩ := h
  obtain ⟨g4, h⟩ := h
  refine gc_callV C BX9 (y := yX9_measure) (as := [.int (fA t 144 a0 (Int32.toNatClampNeg a2))]) rfl (by decide) (by decide) (c_X9_measure l D K E0 B A0 a1 (fA t 144 a0 (Int32.toNatClampNeg a2)) t g4) hk_X9_measure rfl vl_X6_93 kc_X9_measure (isC_of g3 (by decide)) dX6_playPlace_7 (Nat.le_of_ble_eq_true rfl) (fun _ _ h => h.elim) (qkRP ?_)
  refine gc_astoren C 3 [(3, .ref (v_X9_measure a1 (fA t 144 a0 (Int32.toNatClampNeg a2)) t)), (0, .ref a0), (1, .ref a1), (2, .int a2)] dX6_playPlace_10 rfl (by decide) rfl ?_
  refine gc_aloadn C 2 1 dX6_playPlace_11 rfl rfl ?_
  refine gc_aloadn C 1 0 dX6_playPlace_12 rfl rfl ?_
  refine gc_getE C BX6 144 0 (by decide) rfl fe_144 vf_X6_11 rfl g1 dX6_playPlace_13 ?_
  refine gc_iloadn C 3 2 dX6_playPlace_16 rfl rfl ?_
  obtain ⟨g5, h⟩ := h
  refine gc_iald C (ci := 9) (k0 := 0) 144 (by decide) (by decide) (by decide) rfl ft_144 (by decide) g1 g5 dX6_playPlace_17 ?_
  refine gc_callV C BX9 (y := yX9_tempoAt) (as := [.int (fA t 144 a0 (Int32.toNatClampNeg a2))]) rfl (by decide) (by decide) (c_X9_tempoAt l D K E0 B A0 a1 (fA t 144 a0 (Int32.toNatClampNeg a2)) t _ X h) hk_X9_tempoAt rfl vl_X6_97 kc_X9_tempoAt (isC_of g3 (by decide)) dX6_playPlace_18 (Nat.le_of_ble_eq_true rfl) (fun _ _ h => h) (qkI (fun r6 t6 h lt6 => ?_))
  refine gc_istore C [(4, .int r6), (3, .ref (v_X9_measure a1 (fA t 144 a0 (Int32.toNatClampNeg a2)) t)), (0, .ref a0), (1, .ref a1), (2, .int a2)] dX6_playPlace_21 (by decide) rfl ?_
  refine gc_iconst C 0 dX6_playPlace_23 (by decide) ?_
  refine gc_istore C [(5, .int 0), (4, .int r6), (3, .ref (v_X9_measure a1 (fA t 144 a0 (Int32.toNatClampNeg a2)) t)), (0, .ref a0), (1, .ref a1), (2, .int a2)] dX6_playPlace_24 (by decide) rfl ?_
  refine gc_sub [3, 4, 5, 2, 1, 0] rfl ?_
  obtain ⟨n26, h⟩ := h
  have k26 : ∀ (n26 : Nat) (z26 : Int32 × CS), kdLe t6 z26.2 → lp (w_X6_playPlace_L26 B a0 a1 a2 t Q X r6) n26 z26 → GC p l e (rmC 9 B t) s m args below meth c 7 D K E0 B A0 (gc_Q below D K E0 A0 (qV Q) X args s t (rmC 9 B t)) z26.2 26 [(0, .ref a0), (1, .ref a1), (2, .int a2), (3, .ref (v_X9_measure a1 (fA t 144 a0 (Int32.toNatClampNeg a2)) t)), (4, .int r6), (5, .int z26.1)] [] := by
    intro n26
    induction n26 with
    | zero => intro z26 lz26 h; exact h.elim
    | succ n26 ih26 =>
      intro z26 lz26 h
      have h : w_X6_playPlace_L26 B a0 a1 a2 t Q X r6 (lp (w_X6_playPlace_L26 B a0 a1 a2 t Q X r6) n26) z26 := h
      unfold w_X6_playPlace_L26 at h
      refine gc_iload C 5 dX6_playPlace_26 rfl ?_
      refine gc_iconst C 4 dX6_playPlace_28 (by decide) ?_
      refine gc_icmp_ge C 54 dX6_playPlace_29 (by decide) (fun c29_1 => ?_) (fun c29_1 => ?_)
      · have h := h.1 c29_1
        refine gc_iconst C 0 dX6_playPlace_54 (by decide) ?_
        refine gc_istore C [(5, .int 0), (0, .ref a0), (1, .ref a1), (2, .int a2), (3, .ref (v_X9_measure a1 (fA t 144 a0 (Int32.toNatClampNeg a2)) t)), (4, .int r6)] dX6_playPlace_55 (by decide) rfl ?_
        refine gc_sub [1, 2, 3, 4, 5, 0] rfl ?_
        obtain ⟨n57, h⟩ := h
        have k57 : ∀ (n57 : Nat) (z57 : Int32 × CS), kdLe z26.2 z57.2 → lp (w_X6_playPlace_L57 B a0 a1 a2 t Q X r6) n57 z57 → GC p l e (rmC 9 B t) s m args below meth c 7 D K E0 B A0 (gc_Q below D K E0 A0 (qV Q) X args s t (rmC 9 B t)) z57.2 57 [(0, .ref a0), (1, .ref a1), (2, .int a2), (3, .ref (v_X9_measure a1 (fA t 144 a0 (Int32.toNatClampNeg a2)) t)), (4, .int r6), (5, .int z57.1)] [] := by
          intro n57
          induction n57 with
          | zero => intro z57 lz57 h; exact h.elim
          | succ n57 ih57 =>
            intro z57 lz57 h
            have h : w_X6_playPlace_L57 B a0 a1 a2 t Q X r6 (lp (w_X6_playPlace_L57 B a0 a1 a2 t Q X r6) n57) z57 := h
            unfold w_X6_playPlace_L57 at h
            refine gc_iload C 5 dX6_playPlace_57 rfl ?_
            refine gc_bipush C 64 dX6_playPlace_59 (by decide) ?_
            refine gc_icmp_ge C 94 dX6_playPlace_61 (by decide) (fun c61_2 => ?_) (fun c61_2 => ?_)
            · have h := h.1 c61_2
              exact gc_vret C E (kdLe.tr lt6 (kdLe.tr lz26 lz57)) dX6_playPlace_94 ⟨rfl, h⟩
            · have h := h.2 c61_2
              refine gc_aloadn C 0 0 dX6_playPlace_64 rfl rfl ?_
              refine gc_aloadn C 3 3 dX6_playPlace_65 rfl rfl ?_
              refine gc_callV C BX6 (y := yX6_nextVoice) (as := [.ref (v_X9_measure a1 (fA t 144 a0 (Int32.toNatClampNeg a2)) t)]) rfl (by decide) (by decide) (c_X6_nextVoice l D K E0 B A0 a0 (v_X9_measure a1 (fA t 144 a0 (Int32.toNatClampNeg a2)) t) z57.2 _ X h) hk_X6_nextVoice rfl vl_X6_100 kc_X6_nextVoice (isC_of (kdLe.k (kdLe.tr lt6 (kdLe.tr lz26 lz57)) g1 (by decide) (by decide)) (by decide)) dX6_playPlace_66 (Nat.le_of_ble_eq_true rfl) (fun _ _ h => h) (qkI (fun r7 t7 h lt7 => ?_))
              refine gc_istore C [(6, .int r7), (0, .ref a0), (1, .ref a1), (2, .int a2), (3, .ref (v_X9_measure a1 (fA t 144 a0 (Int32.toNatClampNeg a2)) t)), (4, .int r6), (5, .int z57.1)] dX6_playPlace_69 (by decide) rfl ?_
              refine gc_iload C 0 dX6_playPlace_71 rfl ?_
              refine gc_iconst C (-1) dX6_playPlace_73 (by decide) ?_
              refine gc_icmp_ne C 78 dX6_playPlace_74 (by decide) (fun c74_3 => ?_) (fun c74_3 => ?_)
              · have h := h.2 c74_3
                refine gc_aloadn C 1 0 dX6_playPlace_78 rfl rfl ?_
                refine gc_aloadn C 2 1 dX6_playPlace_79 rfl rfl ?_
                refine gc_iloadn C 3 2 dX6_playPlace_80 rfl rfl ?_
                refine gc_iload C 0 dX6_playPlace_81 rfl ?_
                refine gc_iload C 5 dX6_playPlace_83 rfl ?_
                refine gc_callV C BX6 (y := yX6_playEvent) (as := [.ref a1, .int a2, .int r7, .int r6]) rfl (by decide) (by decide) (c_X6_playEvent l D K E0 B A0 a0 a1 a2 r7 r6 t7 _ X h) hk_X6_playEvent rfl vl_X6_104 kc_X6_playEvent (isC_of (kdLe.k (kdLe.tr lt6 (kdLe.tr lz26 (kdLe.tr lz57 lt7))) g1 (by decide) (by decide)) (by decide)) dX6_playPlace_85 (Nat.le_of_ble_eq_true rfl) (fun _ _ h => h) (qkV (fun t8 h lt8 => ?_))
                refine gc_iinc C 6 (z57.1 + 1) [(5, .int (z57.1 + 1)), (6, .int r7), (0, .ref a0), (1, .ref a1), (2, .int a2), (3, .ref (v_X9_measure a1 (fA t 144 a0 (Int32.toNatClampNeg a2)) t)), (4, .int r6)] dX6_playPlace_88 rfl rfl (by decide) rfl ?_
                refine gc_goto C 57 dX6_playPlace_91 (by decide) ?_
                refine gc_sub [2, 3, 4, 5, 6, 0] rfl ?_
                have h9 := ih57 ((z57.1 + 1), t8) (kdLe.tr lz57 (kdLe.tr lt7 lt8)) h
                exact h9
              · have h := h.1 c74_3
                exact gc_vret C E (kdLe.tr lt6 (kdLe.tr lz26 (kdLe.tr lz57 lt7))) dX6_playPlace_77 ⟨rfl, h⟩
        exact k57 n57 (0, z26.2) (kdLe.rf _) h
      · have h := h.2 c29_1
        refine gc_aloadn C 0 0 dX6_playPlace_32 rfl rfl ?_
        refine gc_getE C BX6 152 8 (by decide) rfl fe_152 vf_X6_35 rfl (kdLe.k (kdLe.tr lt6 lz26) g1 (by decide) (by decide)) dX6_playPlace_33 ?_
        refine gc_iload C 5 dX6_playPlace_36 rfl ?_
        refine gc_iconst C 0 dX6_playPlace_38 (by decide) ?_
        obtain ⟨g9, h⟩ := h
        refine gc_iast C (ci := 9) (k0 := 8) 152 (by decide) (by decide) (by decide) rfl ft_152 (by decide) (kdLe.k (kdLe.tr lt6 lz26) g1 (by decide) (by decide)) g9 dX6_playPlace_39 ?_
        refine gc_nameS (fun t10 et10 => ?_)
        have h := h t10 et10
        have lt10 : kdLe z26.2 t10 := kdLe.eq (by rw [et10]; rfl)
        refine gc_aloadn C 0 0 dX6_playPlace_40 rfl rfl ?_
        refine gc_getE C BX6 153 9 (by decide) rfl fe_153 vf_X6_38 rfl (kdLe.k (kdLe.tr lt6 (kdLe.tr lz26 lt10)) g1 (by decide) (by decide)) dX6_playPlace_41 ?_
        refine gc_iload C 5 dX6_playPlace_44 rfl ?_
        refine gc_iconst C 0 dX6_playPlace_46 (by decide) ?_
        obtain ⟨g11, h⟩ := h
        refine gc_iast C (ci := 9) (k0 := 9) 153 (by decide) (by decide) (by decide) rfl ft_153 (by decide) (kdLe.k (kdLe.tr lt6 (kdLe.tr lz26 lt10)) g1 (by decide) (by decide)) g11 dX6_playPlace_47 ?_
        refine gc_nameS (fun t12 et12 => ?_)
        have h := h t12 et12
        have lt12 : kdLe t10 t12 := kdLe.eq (by rw [et12]; rfl)
        refine gc_iinc C 5 (z26.1 + 1) [(5, .int (z26.1 + 1)), (0, .ref a0), (1, .ref a1), (2, .int a2), (3, .ref (v_X9_measure a1 (fA t 144 a0 (Int32.toNatClampNeg a2)) t)), (4, .int r6)] dX6_playPlace_48 rfl rfl (by decide) rfl ?_
        refine gc_goto C 26 dX6_playPlace_51 (by decide) ?_
        refine gc_sub [1, 2, 3, 4, 5, 0] rfl ?_
        have h9 := ih26 ((z26.1 + 1), t12) (kdLe.tr lz26 (kdLe.tr lt10 lt12)) h
        exact h9
  exact k26 n26 (0, t6) (kdLe.rf _) h
