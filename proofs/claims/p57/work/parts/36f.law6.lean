/-! THE LAW'S METHODS (6) -/
def w_L_acts (B : Nat × Nat) (o : Nat) (a1 : Nat) (a2 : Nat) (a3 : Int32) (a4 : Int32) (t : LwS) (Q : Int32 → LwS → Prop) : Prop := (vp_in 0 (rN t.2 a1)) ∧ ∃ J16 : Prop, (J16 → ((d_L_low a4 9) ∧ ∀ x3 : Int32, x3 = ((1 : Int32) + (v_L_low a4 9)) → (d_L_low (a4 >>> (4 &&& 31)) 3) ∧ ∀ x5 : Int32, x5 = ((2 : Int32) <<< ((v_L_low (a4 >>> (4 &&& 31)) 3) &&& 31)) → (vp_in 0 (rN t.2 a1)) ∧ ((¬ (24 ≤ (rG t.2 a1 (Int32.toNatClampNeg 0)))) → vp_in 0 (rN t.2 a1)) ∧ ∀ x7 : Int32, x7 = (if 24 ≤ (rG t.2 a1 (Int32.toNatClampNeg 0)) then ((-1000003) : Int32) else (rG t.2 a1 (Int32.toNatClampNeg 0))) → (vp_in 0 (rN t.2 a1)) ∧ ∀ x10 : Int32, x10 = (if 0 ≤ x7 then 1 else 0) → (vp_in 0 (rN t.2 a1)) ∧ ∀ t12 : LwS, t12 = rSt t a1 0 ((rG t.2 a1 (Int32.toNatClampNeg 0)) + x10) → lcall B t12 (fun B1 K => w_L_addBar B1 o x3 x5 t12 K) (fun r13 t13 => ∃ J163 : Int32 → LwS → Prop, (∀ x14 : Int32, ∀ t15 : LwS, J163 x14 t15 → ((gb x14) ∧ Q x14 t15)) ∧ ∃ J162 : LwS → Prop, (∀ t17 : LwS, J162 t17 → (J163 0 t17)) ∧ (((r13 = x7) → lcall B t13 (fun B1 K => w_L_addBar B1 o 10 4 t13 K) (fun r18 t18 => ((r18 = (-1000002)) → lcall B t18 (fun B1 K => w_L_addBar B1 o 1 1 t18 K) (fun r19 t19 => ((r19 = (-1000002)) → ∃ J158 : LwS → Prop, (∀ t20 : LwS, J158 t20 → (J163 1 t20)) ∧ (((x7 < 0) → J158 t19) ∧ (¬ (x7 < 0) → lcall B t19 (fun B1 K => w_L_length B1 o x7 t19 K) (fun r21 t21 => (¬ x5 = 0) ∧ ((r21 = (((96 : Int32) * x3) / x5)) → lcall B t21 (fun B1 K => w_L_left B1 o 3 x7 t21 K) (fun r23 t23 => lcall B t23 (fun B1 K => w_L_length B1 o x7 t23 K) (fun r24 t24 => ((r23 = r24) → lcall B t24 (fun B1 K => w_L_isRight B1 o 0 x7 t24 K) (fun r25 t25 => ((r25 = 1) → J158 t25) ∧ (¬ (r25 = 1) → J162 t25))) ∧ (¬ (r23 = r24) → J162 t24)))) ∧ (¬ (r21 = (((96 : Int32) * x3) / x5)) → J162 t21))))) ∧ (¬ (r19 = (-1000002)) → J162 t19))) ∧ (¬ (r18 = (-1000002)) → J162 t18))) ∧ (¬ (r13 = x7) → J162 t13))))) ∧ ((((rG t.2 a1 (Int32.toNatClampNeg 0)) < 3) → J16) ∧ (¬ ((rG t.2 a1 (Int32.toNatClampNeg 0)) < 3) → (d_L_low a3 16) ∧ (((v_L_low a3 16) = 0) → J16) ∧ (¬ ((v_L_low a3 16) = 0) → (d_L_low (a3 >>> (4 &&& 31)) 3) ∧ ∃ J201 : Int32 → LwS → Prop, (∀ x28 : Int32, ∀ t29 : LwS, J201 x28 t29 → ((gb x28) ∧ Q x28 t29)) ∧ ((((v_L_low (a3 >>> (4 &&& 31)) 3) = 0) → lcall B t (fun B1 K => w_L_tells B1 o a1 a2 (a3 >>> (6 &&& 31)) a4 t K) (fun r31 t31 => J201 r31 t31)) ∧ (¬ ((v_L_low (a3 >>> (4 &&& 31)) 3) = 0) → lcall B t (fun B1 K => w_L_edits B1 o a1 a2 (a3 >>> (6 &&& 31)) a4 t K) (fun r32 t32 => J201 r32 t32))))))
set_option maxRecDepth 20000 in
set_option maxHeartbeats 4000000 in
theorem c_L_acts (l : Launch) (D : va_G) (K : Nat → ClassId) (E0 b0 : Nat) (B : Nat × Nat) (o : Nat) (a1 : Nat) (a2 : Nat) (a3 : Int32) (a4 : Int32) (t : LwS) (Q : Int32 → LwS → Prop) (h : w_L_acts B o a1 a2 a3 a4 t Q) : MetR l yL_acts (.code yL_acts cL_acts 8 (some .boolean)) 14 [.ref o, .ref a1, .ref a2, .int a3, .int a4] Q D K E0 b0 B t := by
  unfold w_L_acts at h
  refine gr_start (by decide) rfl (Nat.le_of_ble_eq_true rfl) (fun p e s m args below meth c C E => ?_)
  refine gr_aloadn C 1 1 dL_acts_0 rfl rfl ?_
  refine gr_iconst C 0 dL_acts_1 (by decide) ?_
  obtain ⟨g1, h⟩ := h
  refine gr_iald C g1 dL_acts_2 ?_
  refine gr_iconst C 3 dL_acts_3 (by decide) ?_
  obtain ⟨J16, hJ16, h⟩ := h
  have k16 : J16 → GR p l e (rmC 14 B t.1) s m args below meth c 8 D K E0 B b0 (gr_Q below D K E0 b0 Q args s (rmC 14 B t.1)) t 16 [(0, .ref o), (1, .ref a1), (4, .int a4)] [] := by
    intro  h
    have h := hJ16 h
    refine gr_iconst C 1 dL_acts_16 (by decide) ?_
    refine gr_iload C 2 dL_acts_17 rfl ?_
    refine gr_bipush C 9 dL_acts_19 (by decide) ?_
    obtain ⟨g2, h⟩ := h
    refine gr_callP C (y := yL_low) (as := [.int a4, .int 9]) (by exact ⟨Nat.le_of_ble_eq_true rfl, Nat.le_of_ble_eq_true rfl⟩) (fun B1 => c_L_low l D K E0 b0 B1 a4 9 t g2) hk_L_low rfl vs_L_213 kc_L_low dL_acts_21 (Nat.le_of_ble_eq_true rfl) ?_
    refine gr_iadd C dL_acts_24 ?_
    refine gr_nameI (fun x3 ex3 => ?_)
    have h := h x3 ex3
    refine gr_istore C [(5, .int x3), (0, .ref o), (1, .ref a1), (4, .int a4)] dL_acts_25 (by decide) rfl ?_
    refine gr_iconst C 2 dL_acts_27 (by decide) ?_
    refine gr_iload C 3 dL_acts_28 rfl ?_
    refine gr_iconst C 4 dL_acts_30 (by decide) ?_
    refine gr_ishr C dL_acts_31 ?_
    refine gr_iconst C 3 dL_acts_32 (by decide) ?_
    obtain ⟨g4, h⟩ := h
    refine gr_callP C (y := yL_low) (as := [.int (a4 >>> (4 &&& 31)), .int 3]) (by exact ⟨Nat.le_of_ble_eq_true rfl, Nat.le_of_ble_eq_true rfl⟩) (fun B1 => c_L_low l D K E0 b0 B1 (a4 >>> (4 &&& 31)) 3 t g4) hk_L_low rfl vs_L_213 kc_L_low dL_acts_33 (Nat.le_of_ble_eq_true rfl) ?_
    refine gr_ishl C dL_acts_36 ?_
    refine gr_nameI (fun x5 ex5 => ?_)
    have h := h x5 ex5
    refine gr_istore C [(6, .int x5), (5, .int x3), (0, .ref o), (1, .ref a1), (4, .int a4)] dL_acts_37 (by decide) rfl ?_
    refine gr_aloadn C 3 1 dL_acts_39 rfl rfl ?_
    refine gr_iconst C 0 dL_acts_40 (by decide) ?_
    obtain ⟨g6, h⟩ := h
    refine gr_iald C g6 dL_acts_41 ?_
    refine gr_bipush C 24 dL_acts_42 (by decide) ?_
    obtain ⟨g8, h⟩ := h
    have k55 : ∀ x7 : Int32, x7 = (if 24 ≤ (rG t.2 a1 (Int32.toNatClampNeg 0)) then ((-1000003) : Int32) else (rG t.2 a1 (Int32.toNatClampNeg 0))) → GR p l e (rmC 14 B t.1) s m args below meth c 8 D K E0 B b0 (gr_Q below D K E0 b0 Q args s (rmC 14 B t.1)) t 55 [(0, .ref o), (1, .ref a1), (5, .int x3), (6, .int x5)] [.int x7] := by
      intro x7 ex7
      have h := h x7 ex7
      refine gr_istore C [(7, .int x7), (0, .ref o), (1, .ref a1), (5, .int x3), (6, .int x5)] dL_acts_55 (by decide) rfl ?_
      refine gr_aloadn C 2 1 dL_acts_57 rfl rfl ?_
      refine gr_iconst C 0 dL_acts_58 (by decide) ?_
      refine gr_dup2 C dL_acts_59 rfl rfl ?_
      obtain ⟨g9, h⟩ := h
      refine gr_iald C g9 dL_acts_60 ?_
      refine gr_iload C 0 dL_acts_61 rfl ?_
      have k71 : ∀ x10 : Int32, x10 = (if 0 ≤ x7 then 1 else 0) → GR p l e (rmC 14 B t.1) s m args below meth c 8 D K E0 B b0 (gr_Q below D K E0 b0 Q args s (rmC 14 B t.1)) t 71 [(0, .ref o), (5, .int x3), (6, .int x5), (7, .int x7)] [.int x10, .int (rG t.2 a1 (Int32.toNatClampNeg 0)), .int 0, .ref a1] := by
        intro x10 ex10
        have h := h x10 ex10
        refine gr_iadd C dL_acts_71 ?_
        obtain ⟨g11, h⟩ := h
        refine gr_iast C g11 dL_acts_72 ?_
        refine gr_nameS (fun t12 et12 => ?_)
        have h := h t12 et12
        refine gr_aloadn C 0 0 dL_acts_73 rfl rfl ?_
        refine gr_iload C 1 dL_acts_74 rfl ?_
        refine gr_iload C 2 dL_acts_76 rfl ?_
        obtain ⟨B13, hB13, hR13, h⟩ := h
        refine gr_callW C (y := yL_addBar) (as := [.ref o, .int x3, .int x5]) (by exact ⟨Nat.le_of_ble_eq_true rfl, Nat.le_of_ble_eq_true rfl⟩) B13 hB13 hR13 (c_L_addBar l D K E0 b0 B13 o x3 x5 t12 _ h) hk_L_addBar rfl vs_L_337 kc_L_addBar dL_acts_78 (Nat.le_of_ble_eq_true rfl) (fun r13 t13 h z1 z2 => ?_)
        have h := h z1 z2
        refine gr_iload C 3 dL_acts_81 rfl ?_
        obtain ⟨J163, hJ163, h⟩ := h
        have k163 : ∀ x14 : Int32, ∀ t15 : LwS, J163 x14 t15 → GR p l e (rmC 14 B t.1) s m args below meth c 8 D K E0 B b0 (gr_Q below D K E0 b0 Q args s (rmC 14 B t.1)) t15 163 [] [.int x14] := by
          intro x14 t15 h
          have h := hJ163 x14 t15 h
          obtain ⟨g16, h⟩ := h
          exact gr_zret C E g16 dL_acts_163 h
        obtain ⟨J162, hJ162, h⟩ := h
        have k162 : ∀ t17 : LwS, J162 t17 → GR p l e (rmC 14 B t.1) s m args below meth c 8 D K E0 B b0 (gr_Q below D K E0 b0 Q args s (rmC 14 B t.1)) t17 162 [] [] := by
          intro t17 h
          have h := hJ162 t17 h
          refine gr_iconst C 0 dL_acts_162 (by decide) ?_
          exact k163 0 t17 h
        refine gr_icmp_ne C 162 dL_acts_83 (by decide) (fun c83_3 => ?_) (fun c83_3 => ?_)
        · have h := h.2 c83_3
          refine gr_sub [] rfl ?_
          exact k162 t13 h
        · have h := h.1 c83_3
          refine gr_aloadn C 0 0 dL_acts_86 rfl rfl ?_
          refine gr_bipush C 10 dL_acts_87 (by decide) ?_
          refine gr_iconst C 4 dL_acts_89 (by decide) ?_
          obtain ⟨B18, hB18, hR18, h⟩ := h
          refine gr_callW C (y := yL_addBar) (as := [.ref o, .int 10, .int 4]) (by exact ⟨Nat.le_of_ble_eq_true rfl, Nat.le_of_ble_eq_true rfl⟩) B18 hB18 hR18 (c_L_addBar l D K E0 b0 B18 o 10 4 t13 _ h) hk_L_addBar rfl vs_L_337 kc_L_addBar dL_acts_90 (Nat.le_of_ble_eq_true rfl) (fun r18 t18 h z1 z2 => ?_)
          have h := h z1 z2
          refine gr_ldc C (-1000002) v_i617 dL_acts_93 ?_
          refine gr_icmp_ne C 162 dL_acts_95 (by decide) (fun c95_4 => ?_) (fun c95_4 => ?_)
          · have h := h.2 c95_4
            refine gr_sub [] rfl ?_
            exact k162 t18 h
          · have h := h.1 c95_4
            refine gr_aloadn C 0 0 dL_acts_98 rfl rfl ?_
            refine gr_iconst C 1 dL_acts_99 (by decide) ?_
            refine gr_iconst C 1 dL_acts_100 (by decide) ?_
            obtain ⟨B19, hB19, hR19, h⟩ := h
            refine gr_callW C (y := yL_addBar) (as := [.ref o, .int 1, .int 1]) (by exact ⟨Nat.le_of_ble_eq_true rfl, Nat.le_of_ble_eq_true rfl⟩) B19 hB19 hR19 (c_L_addBar l D K E0 b0 B19 o 1 1 t18 _ h) hk_L_addBar rfl vs_L_337 kc_L_addBar dL_acts_101 (Nat.le_of_ble_eq_true rfl) (fun r19 t19 h z1 z2 => ?_)
            have h := h z1 z2
            refine gr_ldc C (-1000002) v_i617 dL_acts_104 ?_
            refine gr_icmp_ne C 162 dL_acts_106 (by decide) (fun c106_5 => ?_) (fun c106_5 => ?_)
            · have h := h.2 c106_5
              refine gr_sub [] rfl ?_
              exact k162 t19 h
            · have h := h.1 c106_5
              refine gr_iload C 3 dL_acts_109 rfl ?_
              obtain ⟨J158, hJ158, h⟩ := h
              have k158 : ∀ t20 : LwS, J158 t20 → GR p l e (rmC 14 B t.1) s m args below meth c 8 D K E0 B b0 (gr_Q below D K E0 b0 Q args s (rmC 14 B t.1)) t20 158 [] [] := by
                intro t20 h
                have h := hJ158 t20 h
                refine gr_iconst C 1 dL_acts_158 (by decide) ?_
                refine gr_goto C 163 dL_acts_159 (by decide) ?_
                exact k163 1 t20 h
              refine gr_if_lt C 158 dL_acts_111 (by decide) (fun c111_6 => ?_) (fun c111_6 => ?_)
              · have h := h.1 c111_6
                refine gr_sub [] rfl ?_
                exact k158 t19 h
              · have h := h.2 c111_6
                refine gr_aloadn C 0 0 dL_acts_114 rfl rfl ?_
                refine gr_iload C 3 dL_acts_115 rfl ?_
                obtain ⟨B21, hB21, hR21, h⟩ := h
                refine gr_callW C (y := yL_length) (as := [.ref o, .int x7]) (by exact ⟨Nat.le_of_ble_eq_true rfl, Nat.le_of_ble_eq_true rfl⟩) B21 hB21 hR21 (c_L_length l D K E0 b0 B21 o x7 t19 _ h) hk_L_length rfl vs_L_193 kc_L_length dL_acts_117 (Nat.le_of_ble_eq_true rfl) (fun r21 t21 h z1 z2 => ?_)
                have h := h z1 z2
                refine gr_bipush C 96 dL_acts_120 (by decide) ?_
                refine gr_iload C 1 dL_acts_122 rfl ?_
                refine gr_imul C dL_acts_124 ?_
                refine gr_iload C 2 dL_acts_125 rfl ?_
                obtain ⟨g22, h⟩ := h
                refine gr_idiv C dL_acts_127 g22 ?_
                refine gr_icmp_ne C 162 dL_acts_128 (by decide) (fun c128_7 => ?_) (fun c128_7 => ?_)
                · have h := h.2 c128_7
                  refine gr_sub [] rfl ?_
                  exact k162 t21 h
                · have h := h.1 c128_7
                  refine gr_aloadn C 0 0 dL_acts_131 rfl rfl ?_
                  refine gr_iconst C 3 dL_acts_132 (by decide) ?_
                  refine gr_iload C 3 dL_acts_133 rfl ?_
                  obtain ⟨B23, hB23, hR23, h⟩ := h
                  refine gr_callW C (y := yL_left) (as := [.ref o, .int 3, .int x7]) (by exact ⟨Nat.le_of_ble_eq_true rfl, Nat.le_of_ble_eq_true rfl⟩) B23 hB23 hR23 (c_L_left l D K E0 b0 B23 o 3 x7 t21 _ h) hk_L_left rfl vs_L_289 kc_L_left dL_acts_135 (Nat.le_of_ble_eq_true rfl) (fun r23 t23 h z1 z2 => ?_)
                  have h := h z1 z2
                  refine gr_aloadn C 0 0 dL_acts_138 rfl rfl ?_
                  refine gr_iload C 3 dL_acts_139 rfl ?_
                  obtain ⟨B24, hB24, hR24, h⟩ := h
                  refine gr_callW C (y := yL_length) (as := [.ref o, .int x7]) (by exact ⟨Nat.le_of_ble_eq_true rfl, Nat.le_of_ble_eq_true rfl⟩) B24 hB24 hR24 (c_L_length l D K E0 b0 B24 o x7 t23 _ h) hk_L_length rfl vs_L_193 kc_L_length dL_acts_141 (Nat.le_of_ble_eq_true rfl) (fun r24 t24 h z1 z2 => ?_)
                  have h := h z1 z2
                  refine gr_icmp_ne C 162 dL_acts_144 (by decide) (fun c144_8 => ?_) (fun c144_8 => ?_)
                  · have h := h.2 c144_8
                    refine gr_sub [] rfl ?_
                    exact k162 t24 h
                  · have h := h.1 c144_8
                    refine gr_aloadn C 0 0 dL_acts_147 rfl rfl ?_
                    refine gr_iconst C 0 dL_acts_148 (by decide) ?_
                    refine gr_iload C 3 dL_acts_149 rfl ?_
                    obtain ⟨B25, hB25, hR25, h⟩ := h
                    refine gr_callW C (y := yL_isRight) (as := [.ref o, .int 0, .int x7]) (by exact ⟨Nat.le_of_ble_eq_true rfl, Nat.le_of_ble_eq_true rfl⟩) B25 hB25 hR25 (c_L_isRight l D K E0 b0 B25 o 0 x7 t24 _ h) hk_L_isRight rfl vs_L_203 kc_L_isRight dL_acts_151 (Nat.le_of_ble_eq_true rfl) (fun r25 t25 h z1 z2 => ?_)
                    have h := h z1 z2
                    refine gr_iconst C 1 dL_acts_154 (by decide) ?_
                    refine gr_icmp_ne C 162 dL_acts_155 (by decide) (fun c155_9 => ?_) (fun c155_9 => ?_)
                    · have h := h.2 c155_9
                      refine gr_sub [] rfl ?_
                      exact k162 t25 h
                    · have h := h.1 c155_9
                      refine gr_sub [] rfl ?_
                      exact k158 t25 h
      refine gr_if_ge C 70 dL_acts_63 (by decide) (fun c63_2 => ?_) (fun c63_2 => ?_)
      · refine gr_iconst C 1 dL_acts_70 (by decide) ?_
        refine gr_sub [1, 3, 4, 0] rfl ?_
        exact k71 _ ((if_pos c63_2).symm)
      · refine gr_iconst C 0 dL_acts_66 (by decide) ?_
        refine gr_goto C 71 dL_acts_67 (by decide) ?_
        refine gr_sub [1, 3, 4, 0] rfl ?_
        exact k71 _ ((if_neg c63_2).symm)
    refine gr_icmp_ge C 53 dL_acts_44 (by decide) (fun c44_1 => ?_) (fun c44_1 => ?_)
    · refine gr_ldc C (-1000003) v_i908 dL_acts_53 ?_
      refine gr_sub [2, 3, 1, 0] rfl ?_
      exact k55 _ ((if_pos c44_1).symm)
    · refine gr_aloadn C 3 1 dL_acts_47 rfl rfl ?_
      refine gr_iconst C 0 dL_acts_48 (by decide) ?_
      refine gr_iald C (g8 c44_1) dL_acts_49 ?_
      refine gr_goto C 55 dL_acts_50 (by decide) ?_
      refine gr_sub [2, 3, 1, 0] rfl ?_
      exact k55 _ ((if_neg c44_1).symm)
  refine gr_icmp_lt C 16 dL_acts_4 (by decide) (fun c4_10 => ?_) (fun c4_10 => ?_)
  · have h := h.1 c4_10
    refine gr_sub [0, 1, 4] rfl ?_
    exact k16 h
  · have h := h.2 c4_10
    refine gr_iloadn C 3 3 dL_acts_7 rfl rfl ?_
    refine gr_bipush C 16 dL_acts_8 (by decide) ?_
    obtain ⟨g26, h⟩ := h
    refine gr_callP C (y := yL_low) (as := [.int a3, .int 16]) (by exact ⟨Nat.le_of_ble_eq_true rfl, Nat.le_of_ble_eq_true rfl⟩) (fun B1 => c_L_low l D K E0 b0 B1 a3 16 t g26) hk_L_low rfl vs_L_213 kc_L_low dL_acts_10 (Nat.le_of_ble_eq_true rfl) ?_
    refine gr_if_ne C 164 dL_acts_13 (by decide) (fun c13_11 => ?_) (fun c13_11 => ?_)
    · have h := h.2 c13_11
      refine gr_iloadn C 3 3 dL_acts_164 rfl rfl ?_
      refine gr_iconst C 4 dL_acts_165 (by decide) ?_
      refine gr_ishr C dL_acts_166 ?_
      refine gr_iconst C 3 dL_acts_167 (by decide) ?_
      obtain ⟨g27, h⟩ := h
      refine gr_callP C (y := yL_low) (as := [.int (a3 >>> (4 &&& 31)), .int 3]) (by exact ⟨Nat.le_of_ble_eq_true rfl, Nat.le_of_ble_eq_true rfl⟩) (fun B1 => c_L_low l D K E0 b0 B1 (a3 >>> (4 &&& 31)) 3 t g27) hk_L_low rfl vs_L_213 kc_L_low dL_acts_168 (Nat.le_of_ble_eq_true rfl) ?_
      obtain ⟨J201, hJ201, h⟩ := h
      have k201 : ∀ x28 : Int32, ∀ t29 : LwS, J201 x28 t29 → GR p l e (rmC 14 B t.1) s m args below meth c 8 D K E0 B b0 (gr_Q below D K E0 b0 Q args s (rmC 14 B t.1)) t29 201 [] [.int x28] := by
        intro x28 t29 h
        have h := hJ201 x28 t29 h
        obtain ⟨g30, h⟩ := h
        exact gr_zret C E g30 dL_acts_201 h
      refine gr_if_ne C 189 dL_acts_171 (by decide) (fun c171_12 => ?_) (fun c171_12 => ?_)
      · have h := h.2 c171_12
        refine gr_aloadn C 0 0 dL_acts_189 rfl rfl ?_
        refine gr_aloadn C 1 1 dL_acts_190 rfl rfl ?_
        refine gr_aloadn C 2 2 dL_acts_191 rfl rfl ?_
        refine gr_iloadn C 3 3 dL_acts_192 rfl rfl ?_
        refine gr_bipush C 6 dL_acts_193 (by decide) ?_
        refine gr_ishr C dL_acts_195 ?_
        refine gr_iload C 4 dL_acts_196 rfl ?_
        obtain ⟨B32, hB32, hR32, h⟩ := h
        refine gr_callS C (y := yL_edits) (as := [.ref o, .ref a1, .ref a2, .int (a3 >>> (6 &&& 31)), .int a4]) (by exact ⟨Nat.le_of_ble_eq_true rfl, Nat.le_of_ble_eq_true rfl⟩) B32 hB32 hR32 (c_L_edits l D K E0 b0 B32 o a1 a2 (a3 >>> (6 &&& 31)) a4 t _ h) hk_L_edits rfl vs_L_343 kc_L_edits dL_acts_198 (Nat.le_of_ble_eq_true rfl) (fun r32 t32 h z1 z2 => ?_)
        have h := h z1 z2
        refine gr_sub [] rfl ?_
        exact k201 r32 t32 h
      · have h := h.1 c171_12
        refine gr_aloadn C 0 0 dL_acts_174 rfl rfl ?_
        refine gr_aloadn C 1 1 dL_acts_175 rfl rfl ?_
        refine gr_aloadn C 2 2 dL_acts_176 rfl rfl ?_
        refine gr_iloadn C 3 3 dL_acts_177 rfl rfl ?_
        refine gr_bipush C 6 dL_acts_178 (by decide) ?_
        refine gr_ishr C dL_acts_180 ?_
        refine gr_iload C 4 dL_acts_181 rfl ?_
        obtain ⟨B31, hB31, hR31, h⟩ := h
        refine gr_callS C (y := yL_tells) (as := [.ref o, .ref a1, .ref a2, .int (a3 >>> (6 &&& 31)), .int a4]) (by exact ⟨Nat.le_of_ble_eq_true rfl, Nat.le_of_ble_eq_true rfl⟩) B31 hB31 hR31 (c_L_tells l D K E0 b0 B31 o a1 a2 (a3 >>> (6 &&& 31)) a4 t _ h) hk_L_tells rfl vs_L_339 kc_L_tells dL_acts_183 (Nat.le_of_ble_eq_true rfl) (fun r31 t31 h z1 z2 => ?_)
        have h := h z1 z2
        refine gr_goto C 201 dL_acts_186 (by decide) ?_
        refine gr_sub [] rfl ?_
        exact k201 r31 t31 h
    · have h := h.1 c13_11
      refine gr_sub [0, 1, 4] rfl ?_
      exact k16 h
