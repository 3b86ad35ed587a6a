/-! THE LAW'S METHODS (4) -/
def w_L_isSo_L34 (B : Nat × Nat) (o : Nat) (a1 : Nat) (Q : Int32 → LwS → Prop) (x5 : Int32) (K34 : (Int32 × Int32 × LwS) → Prop) (z34 : Int32 × Int32 × LwS) : Prop := ∃ J278 : Prop, (J278 → (∃ J341 : Int32 → LwS → Prop, (∀ x6 : Int32, ∀ t7 : LwS, J341 x6 t7 → ((gb x6) ∧ Q x6 t7)) ∧ ∃ J340 : LwS → Prop, (∀ t9 : LwS, J340 t9 → (J341 0 t9)) ∧ (((z34.1 = 0) → J340 z34.2.2) ∧ (¬ (z34.1 = 0) → lcall B z34.2.2 (fun B1 K => w_L_items B1 o 4 z34.2.2 K) (fun r10 t10 => ((r10 = (-1000002)) → lcall B t10 (fun B1 K => w_L_lines B1 o (-1) t10 K) (fun r11 t11 => ((r11 = (-1000002)) → lcall B t11 (fun B1 K => w_L_pages B1 o 4 t11 K) (fun r12 t12 => ((r12 = (-1000002)) → lcall B t12 (fun B1 K => w_L_turnRest B1 o 4 0 t12 K) (fun r13 t13 => ((r13 = (-1000002)) → lcall B t13 (fun B1 K => w_L_sheetPage B1 o 4 0 1 1 t13 K) (fun r14 t14 => ((r14 = (-1000002)) → J341 1 t14) ∧ (¬ (r14 = (-1000002)) → J340 t14))) ∧ (¬ (r13 = (-1000002)) → J340 t13))) ∧ (¬ (r12 = (-1000002)) → J340 t12))) ∧ (¬ (r11 = (-1000002)) → J340 t11))) ∧ (¬ (r10 = (-1000002)) → J340 t10)))))) ∧ (((4 ≤ z34.2.1) → J278) ∧ (¬ (4 ≤ z34.2.1) → ((z34.1 = 0) → J278) ∧ (¬ (z34.1 = 0) → lcall B z34.2.2 (fun B1 K => w_L_items B1 o z34.2.1 z34.2.2 K) (fun r15 t15 => ∃ J272 : Int32 → LwS → Prop, (∀ x16 : Int32, ∀ t17 : LwS, J272 x16 t17 → (K34 (x16, (z34.2.1 + 1), t17))) ∧ ((((r15 < 0) ∨ (z34.2.1 = x5)) → lcall B t15 (fun B1 K => w_L_items B1 o z34.2.1 t15 K) (fun r18 t18 => ((r18 < 0) → lcall B t18 (fun B1 K => w_L_lines B1 o z34.2.1 t18 K) (fun r19 t19 => ∃ J271 : Int32 → LwS → Prop, (∀ x20 : Int32, ∀ t21 : LwS, J271 x20 t21 → (J272 x20 t21)) ∧ ∃ J270 : LwS → Prop, (∀ t22 : LwS, J270 t22 → (J271 0 t22)) ∧ (((r19 = (-1000003)) → lcall B t19 (fun B1 K => w_L_firstItem B1 o z34.2.1 0 t19 K) (fun r23 t23 => ((r23 = (-1000003)) → lcall B t23 (fun B1 K => w_L_badness B1 o z34.2.1 t23 K) (fun r24 t24 => ((r24 = (-1000003)) → lcall B t24 (fun B1 K => w_L_pages B1 o z34.2.1 t24 K) (fun r25 t25 => ((r25 = (-1000003)) → lcall B t25 (fun B1 K => w_L_pageLines B1 o z34.2.1 0 t25 K) (fun r26 t26 => ((r26 = (-1000003)) → lcall B t26 (fun B1 K => w_L_pageOf B1 o z34.2.1 0 t26 K) (fun r27 t27 => ((r27 = (-1000003)) → lcall B t27 (fun B1 K => w_L_pageTurns B1 o z34.2.1 t27 K) (fun r28 t28 => ((r28 = (-1000003)) → lcall B t28 (fun B1 K => w_L_turnBar B1 o z34.2.1 0 t28 K) (fun r29 t29 => ((r29 = (-1000003)) → lcall B t29 (fun B1 K => w_L_badTurns B1 o z34.2.1 t29 K) (fun r30 t30 => ((r30 = (-1000003)) → lcall B t30 (fun B1 K => w_L_sheets B1 o z34.2.1 t30 K) (fun r31 t31 => ((r31 = (-1000003)) → lcall B t31 (fun B1 K => w_L_sheetPage B1 o z34.2.1 0 1 1 t31 K) (fun r32 t32 => ((r32 = (-1000003)) → lcall B t32 (fun B1 K => w_L_itemWidth B1 o z34.2.1 0 t32 K) (fun r33 t33 => ((r33 = (-1000003)) → J271 1 t33) ∧ (¬ (r33 = (-1000003)) → J270 t33))) ∧ (¬ (r32 = (-1000003)) → J270 t32))) ∧ (¬ (r31 = (-1000003)) → J270 t31))) ∧ (¬ (r30 = (-1000003)) → J270 t30))) ∧ (¬ (r29 = (-1000003)) → J270 t29))) ∧ (¬ (r28 = (-1000003)) → J270 t28))) ∧ (¬ (r27 = (-1000003)) → J270 t27))) ∧ (¬ (r26 = (-1000003)) → J270 t26))) ∧ (¬ (r25 = (-1000003)) → J270 t25))) ∧ (¬ (r24 = (-1000003)) → J270 t24))) ∧ (¬ (r23 = (-1000003)) → J270 t23))) ∧ (¬ (r19 = (-1000003)) → J270 t19)))) ∧ (¬ (r18 < 0) → lcall B t18 (fun B1 K => w_L_areItems B1 o a1 z34.2.1 t18 K) (fun r34 t34 => ∃ J122 : Int32 → LwS → Prop, (∀ x35 : Int32, ∀ t36 : LwS, J122 x35 t36 → (J272 x35 t36)) ∧ ∃ J121 : LwS → Prop, (∀ t37 : LwS, J121 t37 → (J122 0 t37)) ∧ (((r34 = 0) → J121 t34) ∧ (¬ (r34 = 0) → lcall B t34 (fun B1 K => w_L_areLines B1 o a1 z34.2.1 t34 K) (fun r38 t38 => ((r38 = 0) → J121 t38) ∧ (¬ (r38 = 0) → lcall B t38 (fun B1 K => w_L_arePages B1 o a1 z34.2.1 t38 K) (fun r39 t39 => ((r39 = 0) → J121 t39) ∧ (¬ (r39 = 0) → J122 1 t39)))))))))) ∧ (¬ ((r15 < 0) ∨ (z34.2.1 = x5)) → lcall B t15 (fun B1 K => w_L_badness B1 o z34.2.1 t15 K) (fun r40 t40 => ∀ x41 : Int32, x41 = (if ¬ (r40 < 0) then 1 else 0) → J272 x41 t40)))))))
def w_L_isSo (B : Nat × Nat) (o : Nat) (a1 : Nat) (a2 : Int32) (t : LwS) (Q : Int32 → LwS → Prop) : Prop := lcall B t (fun B1 K => w_L_isPlayed B1 o a1 t K) (fun r1 t1 => ∃ J21 : Int32 → LwS → Prop, (∀ x2 : Int32, ∀ t3 : LwS, J21 x2 t3 → ((d_L_low (a2 >>> (3 &&& 31)) 4) ∧ ∀ x5 : Int32, x5 = (v_L_low (a2 >>> (3 &&& 31)) 4) → ∃ n, lp (w_L_isSo_L34 B o a1 Q x5) n (x2, 0, t3))) ∧ ∃ J20 : LwS → Prop, (∀ t42 : LwS, J20 t42 → (J21 0 t42)) ∧ (((r1 = 0) → J20 t1) ∧ (¬ (r1 = 0) → lcall B t1 (fun B1 K => w_L_areSounds B1 o a2 t1 K) (fun r43 t43 => ((r43 = 0) → J20 t43) ∧ (¬ (r43 = 0) → J21 1 t43)))))
set_option maxRecDepth 20000 in
set_option maxHeartbeats 4000000 in
theorem c_L_isSo (l : Launch) (D : va_G) (K : Nat → ClassId) (E0 b0 : Nat) (B : Nat × Nat) (o : Nat) (a1 : Nat) (a2 : Int32) (t : LwS) (Q : Int32 → LwS → Prop) (h : w_L_isSo B o a1 a2 t Q) : MetR l yL_isSo (.code yL_isSo cL_isSo 6 (some .boolean)) 15 [.ref o, .ref a1, .int a2] Q D K E0 b0 B t := by
  unfold w_L_isSo at h
  refine gr_start (by decide) rfl (Nat.le_of_ble_eq_true rfl) (fun p e s m args below meth c C E => ?_)
  refine gr_aloadn C 0 0 dL_isSo_0 rfl rfl ?_
  refine gr_aloadn C 1 1 dL_isSo_1 rfl rfl ?_
  obtain ⟨B1, hB1, hR1, h⟩ := h
  refine gr_callS C (y := yL_isPlayed) (as := [.ref o, .ref a1]) (by exact ⟨Nat.le_of_ble_eq_true rfl, Nat.le_of_ble_eq_true rfl⟩) B1 hB1 hR1 (c_L_isPlayed l D K E0 b0 B1 o a1 t _ h) hk_L_isPlayed rfl vs_L_271 kc_L_isPlayed dL_isSo_2 (Nat.le_of_ble_eq_true rfl) (fun r1 t1 h z1 z2 => ?_)
  have h := h z1 z2
  obtain ⟨J21, hJ21, h⟩ := h
  have k21 : ∀ x2 : Int32, ∀ t3 : LwS, J21 x2 t3 → GR p l e (rmC 15 B t.1) s m args below meth c 6 D K E0 B b0 (gr_Q below D K E0 b0 Q args s (rmC 15 B t.1)) t3 21 [(0, .ref o), (1, .ref a1), (2, .int a2)] [.int x2] := by
    intro x2 t3 h
    have h := hJ21 x2 t3 h
    refine gr_istoren C 3 [(3, .int x2), (0, .ref o), (1, .ref a1), (2, .int a2)] dL_isSo_21 rfl (by decide) rfl ?_
    refine gr_iloadn C 3 2 dL_isSo_22 rfl rfl ?_
    refine gr_iconst C 3 dL_isSo_23 (by decide) ?_
    refine gr_ishr C dL_isSo_24 ?_
    refine gr_iconst C 4 dL_isSo_25 (by decide) ?_
    obtain ⟨g4, h⟩ := h
    refine gr_callP C (y := yL_low) (as := [.int (a2 >>> (3 &&& 31)), .int 4]) (by exact ⟨Nat.le_of_ble_eq_true rfl, Nat.le_of_ble_eq_true rfl⟩) (fun B1 => c_L_low l D K E0 b0 B1 (a2 >>> (3 &&& 31)) 4 t3 g4) hk_L_low rfl vs_L_213 kc_L_low dL_isSo_26 (Nat.le_of_ble_eq_true rfl) ?_
    refine gr_nameI (fun x5 ex5 => ?_)
    have h := h x5 ex5
    refine gr_istore C [(4, .int x5), (3, .int x2), (0, .ref o), (1, .ref a1), (2, .int a2)] dL_isSo_29 (by decide) rfl ?_
    refine gr_iconst C 0 dL_isSo_31 (by decide) ?_
    refine gr_istore C [(5, .int 0), (4, .int x5), (3, .int x2), (0, .ref o), (1, .ref a1), (2, .int a2)] dL_isSo_32 (by decide) rfl ?_
    refine gr_sub [3, 4, 2, 1, 0] rfl ?_
    obtain ⟨n34, h⟩ := h
    have k34 : ∀ (n34 : Nat) (z34 : Int32 × Int32 × LwS), lp (w_L_isSo_L34 B o a1 Q x5) n34 z34 → GR p l e (rmC 15 B t.1) s m args below meth c 6 D K E0 B b0 (gr_Q below D K E0 b0 Q args s (rmC 15 B t.1)) z34.2.2 34 [(0, .ref o), (1, .ref a1), (3, .int z34.1), (4, .int x5), (5, .int z34.2.1)] [] := by
      intro n34
      induction n34 with
      | zero => intro z34 h; exact h.elim
      | succ n34 ih34 =>
        intro z34 h
        have h : w_L_isSo_L34 B o a1 Q x5 (lp (w_L_isSo_L34 B o a1 Q x5) n34) z34 := h
        unfold w_L_isSo_L34 at h
        refine gr_iload C 4 dL_isSo_34 rfl ?_
        refine gr_iconst C 4 dL_isSo_36 (by decide) ?_
        obtain ⟨J278, hJ278, h⟩ := h
        have k278 : J278 → GR p l e (rmC 15 B t.1) s m args below meth c 6 D K E0 B b0 (gr_Q below D K E0 b0 Q args s (rmC 15 B t.1)) z34.2.2 278 [(0, .ref o), (3, .int z34.1)] [] := by
          intro  h
          have h := hJ278 h
          refine gr_iloadn C 1 3 dL_isSo_278 rfl rfl ?_
          obtain ⟨J341, hJ341, h⟩ := h
          have k341 : ∀ x6 : Int32, ∀ t7 : LwS, J341 x6 t7 → GR p l e (rmC 15 B t.1) s m args below meth c 6 D K E0 B b0 (gr_Q below D K E0 b0 Q args s (rmC 15 B t.1)) t7 341 [] [.int x6] := by
            intro x6 t7 h
            have h := hJ341 x6 t7 h
            obtain ⟨g8, h⟩ := h
            exact gr_zret C E g8 dL_isSo_341 h
          obtain ⟨J340, hJ340, h⟩ := h
          have k340 : ∀ t9 : LwS, J340 t9 → GR p l e (rmC 15 B t.1) s m args below meth c 6 D K E0 B b0 (gr_Q below D K E0 b0 Q args s (rmC 15 B t.1)) t9 340 [] [] := by
            intro t9 h
            have h := hJ340 t9 h
            refine gr_iconst C 0 dL_isSo_340 (by decide) ?_
            exact k341 0 t9 h
          refine gr_if_eq C 340 dL_isSo_279 (by decide) (fun c279_1 => ?_) (fun c279_1 => ?_)
          · have h := h.1 c279_1
            refine gr_sub [] rfl ?_
            exact k340 z34.2.2 h
          · have h := h.2 c279_1
            refine gr_aloadn C 0 0 dL_isSo_282 rfl rfl ?_
            refine gr_iconst C 4 dL_isSo_283 (by decide) ?_
            obtain ⟨B10, hB10, hR10, h⟩ := h
            refine gr_callW C (y := yL_items) (as := [.ref o, .int 4]) (by exact ⟨Nat.le_of_ble_eq_true rfl, Nat.le_of_ble_eq_true rfl⟩) B10 hB10 hR10 (c_L_items l D K E0 b0 B10 o 4 z34.2.2 _ h) hk_L_items rfl vs_L_208 kc_L_items dL_isSo_284 (Nat.le_of_ble_eq_true rfl) (fun r10 t10 h z1 z2 => ?_)
            have h := h z1 z2
            refine gr_ldc C (-1000002) v_i617 dL_isSo_287 ?_
            refine gr_icmp_ne C 340 dL_isSo_289 (by decide) (fun c289_2 => ?_) (fun c289_2 => ?_)
            · have h := h.2 c289_2
              refine gr_sub [] rfl ?_
              exact k340 t10 h
            · have h := h.1 c289_2
              refine gr_aloadn C 0 0 dL_isSo_292 rfl rfl ?_
              refine gr_iconst C (-1) dL_isSo_293 (by decide) ?_
              obtain ⟨B11, hB11, hR11, h⟩ := h
              refine gr_callW C (y := yL_lines) (as := [.ref o, .int (-1)]) (by exact ⟨Nat.le_of_ble_eq_true rfl, Nat.le_of_ble_eq_true rfl⟩) B11 hB11 hR11 (c_L_lines l D K E0 b0 B11 o (-1) t10 _ h) hk_L_lines rfl vs_L_244 kc_L_lines dL_isSo_294 (Nat.le_of_ble_eq_true rfl) (fun r11 t11 h z1 z2 => ?_)
              have h := h z1 z2
              refine gr_ldc C (-1000002) v_i617 dL_isSo_297 ?_
              refine gr_icmp_ne C 340 dL_isSo_299 (by decide) (fun c299_3 => ?_) (fun c299_3 => ?_)
              · have h := h.2 c299_3
                refine gr_sub [] rfl ?_
                exact k340 t11 h
              · have h := h.1 c299_3
                refine gr_aloadn C 0 0 dL_isSo_302 rfl rfl ?_
                refine gr_iconst C 4 dL_isSo_303 (by decide) ?_
                obtain ⟨B12, hB12, hR12, h⟩ := h
                refine gr_callW C (y := yL_pages) (as := [.ref o, .int 4]) (by exact ⟨Nat.le_of_ble_eq_true rfl, Nat.le_of_ble_eq_true rfl⟩) B12 hB12 hR12 (c_L_pages l D K E0 b0 B12 o 4 t11 _ h) hk_L_pages rfl vs_L_250 kc_L_pages dL_isSo_304 (Nat.le_of_ble_eq_true rfl) (fun r12 t12 h z1 z2 => ?_)
                have h := h z1 z2
                refine gr_ldc C (-1000002) v_i617 dL_isSo_307 ?_
                refine gr_icmp_ne C 340 dL_isSo_309 (by decide) (fun c309_4 => ?_) (fun c309_4 => ?_)
                · have h := h.2 c309_4
                  refine gr_sub [] rfl ?_
                  exact k340 t12 h
                · have h := h.1 c309_4
                  refine gr_aloadn C 0 0 dL_isSo_312 rfl rfl ?_
                  refine gr_iconst C 4 dL_isSo_313 (by decide) ?_
                  refine gr_iconst C 0 dL_isSo_314 (by decide) ?_
                  obtain ⟨B13, hB13, hR13, h⟩ := h
                  refine gr_callW C (y := yL_turnRest) (as := [.ref o, .int 4, .int 0]) (by exact ⟨Nat.le_of_ble_eq_true rfl, Nat.le_of_ble_eq_true rfl⟩) B13 hB13 hR13 (c_L_turnRest l D K E0 b0 B13 o 4 0 t12 _ h) hk_L_turnRest rfl vs_L_254 kc_L_turnRest dL_isSo_315 (Nat.le_of_ble_eq_true rfl) (fun r13 t13 h z1 z2 => ?_)
                  have h := h z1 z2
                  refine gr_ldc C (-1000002) v_i617 dL_isSo_318 ?_
                  refine gr_icmp_ne C 340 dL_isSo_320 (by decide) (fun c320_5 => ?_) (fun c320_5 => ?_)
                  · have h := h.2 c320_5
                    refine gr_sub [] rfl ?_
                    exact k340 t13 h
                  · have h := h.1 c320_5
                    refine gr_aloadn C 0 0 dL_isSo_323 rfl rfl ?_
                    refine gr_iconst C 4 dL_isSo_324 (by decide) ?_
                    refine gr_iconst C 0 dL_isSo_325 (by decide) ?_
                    refine gr_iconst C 1 dL_isSo_326 (by decide) ?_
                    refine gr_iconst C 1 dL_isSo_327 (by decide) ?_
                    obtain ⟨B14, hB14, hR14, h⟩ := h
                    refine gr_callW C (y := yL_sheetPage) (as := [.ref o, .int 4, .int 0, .int 1, .int 1]) (by exact ⟨Nat.le_of_ble_eq_true rfl, Nat.le_of_ble_eq_true rfl⟩) B14 hB14 hR14 (c_L_sheetPage l D K E0 b0 B14 o 4 0 1 1 t13 _ h) hk_L_sheetPage rfl vs_L_268 kc_L_sheetPage dL_isSo_328 (Nat.le_of_ble_eq_true rfl) (fun r14 t14 h z1 z2 => ?_)
                    have h := h z1 z2
                    refine gr_ldc C (-1000002) v_i617 dL_isSo_331 ?_
                    refine gr_icmp_ne C 340 dL_isSo_333 (by decide) (fun c333_6 => ?_) (fun c333_6 => ?_)
                    · have h := h.2 c333_6
                      refine gr_sub [] rfl ?_
                      exact k340 t14 h
                    · have h := h.1 c333_6
                      refine gr_iconst C 1 dL_isSo_336 (by decide) ?_
                      refine gr_goto C 341 dL_isSo_337 (by decide) ?_
                      refine gr_sub [] rfl ?_
                      exact k341 1 t14 h
        refine gr_icmp_ge C 278 dL_isSo_37 (by decide) (fun c37_7 => ?_) (fun c37_7 => ?_)
        · have h := h.1 c37_7
          refine gr_sub [0, 2] rfl ?_
          exact k278 h
        · have h := h.2 c37_7
          refine gr_iloadn C 2 3 dL_isSo_40 rfl rfl ?_
          refine gr_if_eq C 278 dL_isSo_41 (by decide) (fun c41_8 => ?_) (fun c41_8 => ?_)
          · have h := h.1 c41_8
            refine gr_sub [0, 2] rfl ?_
            exact k278 h
          · have h := h.2 c41_8
            refine gr_aloadn C 0 0 dL_isSo_44 rfl rfl ?_
            refine gr_iload C 4 dL_isSo_45 rfl ?_
            obtain ⟨B15, hB15, hR15, h⟩ := h
            refine gr_callW C (y := yL_items) (as := [.ref o, .int z34.2.1]) (by exact ⟨Nat.le_of_ble_eq_true rfl, Nat.le_of_ble_eq_true rfl⟩) B15 hB15 hR15 (c_L_items l D K E0 b0 B15 o z34.2.1 z34.2.2 _ h) hk_L_items rfl vs_L_208 kc_L_items dL_isSo_47 (Nat.le_of_ble_eq_true rfl) (fun r15 t15 h z1 z2 => ?_)
            have h := h z1 z2
            obtain ⟨J272, hJ272, h⟩ := h
            have k272 : ∀ x16 : Int32, ∀ t17 : LwS, J272 x16 t17 → GR p l e (rmC 15 B t.1) s m args below meth c 6 D K E0 B b0 (gr_Q below D K E0 b0 Q args s (rmC 15 B t.1)) t17 272 [(0, .ref o), (1, .ref a1), (3, .int x16), (4, .int x5), (5, .int z34.2.1)] [] := by
              intro x16 t17 h
              have h := hJ272 x16 t17 h
              refine gr_iinc C 4 (z34.2.1 + 1) [(5, .int (z34.2.1 + 1)), (0, .ref o), (1, .ref a1), (3, .int x16), (4, .int x5)] dL_isSo_272 rfl rfl (by decide) rfl ?_
              refine gr_goto C 34 dL_isSo_275 (by decide) ?_
              refine gr_sub [1, 2, 3, 4, 0] rfl ?_
              have h9 := ih34 (x16, (z34.2.1 + 1), t17) h
              exact h9
            have kt44 : ((r15 < 0) ∨ (z34.2.1 = x5)) → GR p l e (rmC 15 B t.1) s m args below meth c 6 D K E0 B b0 (gr_Q below D K E0 b0 Q args s (rmC 15 B t.1)) t15 78 [(0, .ref o), (1, .ref a1), (3, .int z34.1), (4, .int x5), (5, .int z34.2.1)] [] := by
              intro hc
              have h := h.1 hc
              refine gr_aloadn C 0 0 dL_isSo_78 rfl rfl ?_
              refine gr_iload C 4 dL_isSo_79 rfl ?_
              obtain ⟨B18, hB18, hR18, h⟩ := h
              refine gr_callW C (y := yL_items) (as := [.ref o, .int z34.2.1]) (by exact ⟨Nat.le_of_ble_eq_true rfl, Nat.le_of_ble_eq_true rfl⟩) B18 hB18 hR18 (c_L_items l D K E0 b0 B18 o z34.2.1 t15 _ h) hk_L_items rfl vs_L_208 kc_L_items dL_isSo_81 (Nat.le_of_ble_eq_true rfl) (fun r18 t18 h z1 z2 => ?_)
              have h := h z1 z2
              refine gr_if_lt C 126 dL_isSo_84 (by decide) (fun c84_11 => ?_) (fun c84_11 => ?_)
              · have h := h.1 c84_11
                refine gr_aloadn C 0 0 dL_isSo_126 rfl rfl ?_
                refine gr_iload C 4 dL_isSo_127 rfl ?_
                obtain ⟨B19, hB19, hR19, h⟩ := h
                refine gr_callW C (y := yL_lines) (as := [.ref o, .int z34.2.1]) (by exact ⟨Nat.le_of_ble_eq_true rfl, Nat.le_of_ble_eq_true rfl⟩) B19 hB19 hR19 (c_L_lines l D K E0 b0 B19 o z34.2.1 t18 _ h) hk_L_lines rfl vs_L_244 kc_L_lines dL_isSo_129 (Nat.le_of_ble_eq_true rfl) (fun r19 t19 h z1 z2 => ?_)
                have h := h z1 z2
                refine gr_ldc C (-1000003) v_i908 dL_isSo_132 ?_
                obtain ⟨J271, hJ271, h⟩ := h
                have k271 : ∀ x20 : Int32, ∀ t21 : LwS, J271 x20 t21 → GR p l e (rmC 15 B t.1) s m args below meth c 6 D K E0 B b0 (gr_Q below D K E0 b0 Q args s (rmC 15 B t.1)) t21 271 [(0, .ref o), (1, .ref a1), (4, .int x5), (5, .int z34.2.1)] [.int x20] := by
                  intro x20 t21 h
                  have h := hJ271 x20 t21 h
                  refine gr_istoren C 3 [(3, .int x20), (0, .ref o), (1, .ref a1), (4, .int x5), (5, .int z34.2.1)] dL_isSo_271 rfl (by decide) rfl ?_
                  refine gr_sub [1, 2, 0, 3, 4] rfl ?_
                  exact k272 x20 t21 h
                obtain ⟨J270, hJ270, h⟩ := h
                have k270 : ∀ t22 : LwS, J270 t22 → GR p l e (rmC 15 B t.1) s m args below meth c 6 D K E0 B b0 (gr_Q below D K E0 b0 Q args s (rmC 15 B t.1)) t22 270 [(0, .ref o), (1, .ref a1), (4, .int x5), (5, .int z34.2.1)] [] := by
                  intro t22 h
                  have h := hJ270 t22 h
                  refine gr_iconst C 0 dL_isSo_270 (by decide) ?_
                  exact k271 0 t22 h
                refine gr_icmp_ne C 270 dL_isSo_134 (by decide) (fun c134_12 => ?_) (fun c134_12 => ?_)
                · have h := h.2 c134_12
                  refine gr_sub [0, 1, 3, 4] rfl ?_
                  exact k270 t19 h
                · have h := h.1 c134_12
                  refine gr_aloadn C 0 0 dL_isSo_137 rfl rfl ?_
                  refine gr_iload C 4 dL_isSo_138 rfl ?_
                  refine gr_iconst C 0 dL_isSo_140 (by decide) ?_
                  obtain ⟨B23, hB23, hR23, h⟩ := h
                  refine gr_callW C (y := yL_firstItem) (as := [.ref o, .int z34.2.1, .int 0]) (by exact ⟨Nat.le_of_ble_eq_true rfl, Nat.le_of_ble_eq_true rfl⟩) B23 hB23 hR23 (c_L_firstItem l D K E0 b0 B23 o z34.2.1 0 t19 _ h) hk_L_firstItem rfl vs_L_246 kc_L_firstItem dL_isSo_141 (Nat.le_of_ble_eq_true rfl) (fun r23 t23 h z1 z2 => ?_)
                  have h := h z1 z2
                  refine gr_ldc C (-1000003) v_i908 dL_isSo_144 ?_
                  refine gr_icmp_ne C 270 dL_isSo_146 (by decide) (fun c146_13 => ?_) (fun c146_13 => ?_)
                  · have h := h.2 c146_13
                    refine gr_sub [0, 1, 3, 4] rfl ?_
                    exact k270 t23 h
                  · have h := h.1 c146_13
                    refine gr_aloadn C 0 0 dL_isSo_149 rfl rfl ?_
                    refine gr_iload C 4 dL_isSo_150 rfl ?_
                    obtain ⟨B24, hB24, hR24, h⟩ := h
                    refine gr_callW C (y := yL_badness) (as := [.ref o, .int z34.2.1]) (by exact ⟨Nat.le_of_ble_eq_true rfl, Nat.le_of_ble_eq_true rfl⟩) B24 hB24 hR24 (c_L_badness l D K E0 b0 B24 o z34.2.1 t23 _ h) hk_L_badness rfl vs_L_248 kc_L_badness dL_isSo_152 (Nat.le_of_ble_eq_true rfl) (fun r24 t24 h z1 z2 => ?_)
                    have h := h z1 z2
                    refine gr_ldc C (-1000003) v_i908 dL_isSo_155 ?_
                    refine gr_icmp_ne C 270 dL_isSo_157 (by decide) (fun c157_14 => ?_) (fun c157_14 => ?_)
                    · have h := h.2 c157_14
                      refine gr_sub [0, 1, 3, 4] rfl ?_
                      exact k270 t24 h
                    · have h := h.1 c157_14
                      refine gr_aloadn C 0 0 dL_isSo_160 rfl rfl ?_
                      refine gr_iload C 4 dL_isSo_161 rfl ?_
                      obtain ⟨B25, hB25, hR25, h⟩ := h
                      refine gr_callW C (y := yL_pages) (as := [.ref o, .int z34.2.1]) (by exact ⟨Nat.le_of_ble_eq_true rfl, Nat.le_of_ble_eq_true rfl⟩) B25 hB25 hR25 (c_L_pages l D K E0 b0 B25 o z34.2.1 t24 _ h) hk_L_pages rfl vs_L_250 kc_L_pages dL_isSo_163 (Nat.le_of_ble_eq_true rfl) (fun r25 t25 h z1 z2 => ?_)
                      have h := h z1 z2
                      refine gr_ldc C (-1000003) v_i908 dL_isSo_166 ?_
                      refine gr_icmp_ne C 270 dL_isSo_168 (by decide) (fun c168_15 => ?_) (fun c168_15 => ?_)
                      · have h := h.2 c168_15
                        refine gr_sub [0, 1, 3, 4] rfl ?_
                        exact k270 t25 h
                      · have h := h.1 c168_15
                        refine gr_aloadn C 0 0 dL_isSo_171 rfl rfl ?_
                        refine gr_iload C 4 dL_isSo_172 rfl ?_
                        refine gr_iconst C 0 dL_isSo_174 (by decide) ?_
                        obtain ⟨B26, hB26, hR26, h⟩ := h
                        refine gr_callW C (y := yL_pageLines) (as := [.ref o, .int z34.2.1, .int 0]) (by exact ⟨Nat.le_of_ble_eq_true rfl, Nat.le_of_ble_eq_true rfl⟩) B26 hB26 hR26 (c_L_pageLines l D K E0 b0 B26 o z34.2.1 0 t25 _ h) hk_L_pageLines rfl vs_L_252 kc_L_pageLines dL_isSo_175 (Nat.le_of_ble_eq_true rfl) (fun r26 t26 h z1 z2 => ?_)
                        have h := h z1 z2
                        refine gr_ldc C (-1000003) v_i908 dL_isSo_178 ?_
                        refine gr_icmp_ne C 270 dL_isSo_180 (by decide) (fun c180_16 => ?_) (fun c180_16 => ?_)
                        · have h := h.2 c180_16
                          refine gr_sub [0, 1, 3, 4] rfl ?_
                          exact k270 t26 h
                        · have h := h.1 c180_16
                          refine gr_aloadn C 0 0 dL_isSo_183 rfl rfl ?_
                          refine gr_iload C 4 dL_isSo_184 rfl ?_
                          refine gr_iconst C 0 dL_isSo_186 (by decide) ?_
                          obtain ⟨B27, hB27, hR27, h⟩ := h
                          refine gr_callW C (y := yL_pageOf) (as := [.ref o, .int z34.2.1, .int 0]) (by exact ⟨Nat.le_of_ble_eq_true rfl, Nat.le_of_ble_eq_true rfl⟩) B27 hB27 hR27 (c_L_pageOf l D K E0 b0 B27 o z34.2.1 0 t26 _ h) hk_L_pageOf rfl vs_L_260 kc_L_pageOf dL_isSo_187 (Nat.le_of_ble_eq_true rfl) (fun r27 t27 h z1 z2 => ?_)
                          have h := h z1 z2
                          refine gr_ldc C (-1000003) v_i908 dL_isSo_190 ?_
                          refine gr_icmp_ne C 270 dL_isSo_192 (by decide) (fun c192_17 => ?_) (fun c192_17 => ?_)
                          · have h := h.2 c192_17
                            refine gr_sub [0, 1, 3, 4] rfl ?_
                            exact k270 t27 h
                          · have h := h.1 c192_17
                            refine gr_aloadn C 0 0 dL_isSo_195 rfl rfl ?_
                            refine gr_iload C 4 dL_isSo_196 rfl ?_
                            obtain ⟨B28, hB28, hR28, h⟩ := h
                            refine gr_callW C (y := yL_pageTurns) (as := [.ref o, .int z34.2.1]) (by exact ⟨Nat.le_of_ble_eq_true rfl, Nat.le_of_ble_eq_true rfl⟩) B28 hB28 hR28 (c_L_pageTurns l D K E0 b0 B28 o z34.2.1 t27 _ h) hk_L_pageTurns rfl vs_L_264 kc_L_pageTurns dL_isSo_198 (Nat.le_of_ble_eq_true rfl) (fun r28 t28 h z1 z2 => ?_)
                            have h := h z1 z2
                            refine gr_ldc C (-1000003) v_i908 dL_isSo_201 ?_
                            refine gr_icmp_ne C 270 dL_isSo_203 (by decide) (fun c203_18 => ?_) (fun c203_18 => ?_)
                            · have h := h.2 c203_18
                              refine gr_sub [0, 1, 3, 4] rfl ?_
                              exact k270 t28 h
                            · have h := h.1 c203_18
                              refine gr_aloadn C 0 0 dL_isSo_206 rfl rfl ?_
                              refine gr_iload C 4 dL_isSo_207 rfl ?_
                              refine gr_iconst C 0 dL_isSo_209 (by decide) ?_
                              obtain ⟨B29, hB29, hR29, h⟩ := h
                              refine gr_callW C (y := yL_turnBar) (as := [.ref o, .int z34.2.1, .int 0]) (by exact ⟨Nat.le_of_ble_eq_true rfl, Nat.le_of_ble_eq_true rfl⟩) B29 hB29 hR29 (c_L_turnBar l D K E0 b0 B29 o z34.2.1 0 t28 _ h) hk_L_turnBar rfl vs_L_256 kc_L_turnBar dL_isSo_210 (Nat.le_of_ble_eq_true rfl) (fun r29 t29 h z1 z2 => ?_)
                              have h := h z1 z2
                              refine gr_ldc C (-1000003) v_i908 dL_isSo_213 ?_
                              refine gr_icmp_ne C 270 dL_isSo_215 (by decide) (fun c215_19 => ?_) (fun c215_19 => ?_)
                              · have h := h.2 c215_19
                                refine gr_sub [0, 1, 3, 4] rfl ?_
                                exact k270 t29 h
                              · have h := h.1 c215_19
                                refine gr_aloadn C 0 0 dL_isSo_218 rfl rfl ?_
                                refine gr_iload C 4 dL_isSo_219 rfl ?_
                                obtain ⟨B30, hB30, hR30, h⟩ := h
                                refine gr_callW C (y := yL_badTurns) (as := [.ref o, .int z34.2.1]) (by exact ⟨Nat.le_of_ble_eq_true rfl, Nat.le_of_ble_eq_true rfl⟩) B30 hB30 hR30 (c_L_badTurns l D K E0 b0 B30 o z34.2.1 t29 _ h) hk_L_badTurns rfl vs_L_266 kc_L_badTurns dL_isSo_221 (Nat.le_of_ble_eq_true rfl) (fun r30 t30 h z1 z2 => ?_)
                                have h := h z1 z2
                                refine gr_ldc C (-1000003) v_i908 dL_isSo_224 ?_
                                refine gr_icmp_ne C 270 dL_isSo_226 (by decide) (fun c226_20 => ?_) (fun c226_20 => ?_)
                                · have h := h.2 c226_20
                                  refine gr_sub [0, 1, 3, 4] rfl ?_
                                  exact k270 t30 h
                                · have h := h.1 c226_20
                                  refine gr_aloadn C 0 0 dL_isSo_229 rfl rfl ?_
                                  refine gr_iload C 4 dL_isSo_230 rfl ?_
                                  obtain ⟨B31, hB31, hR31, h⟩ := h
                                  refine gr_callW C (y := yL_sheets) (as := [.ref o, .int z34.2.1]) (by exact ⟨Nat.le_of_ble_eq_true rfl, Nat.le_of_ble_eq_true rfl⟩) B31 hB31 hR31 (c_L_sheets l D K E0 b0 B31 o z34.2.1 t30 _ h) hk_L_sheets rfl vs_L_262 kc_L_sheets dL_isSo_232 (Nat.le_of_ble_eq_true rfl) (fun r31 t31 h z1 z2 => ?_)
                                  have h := h z1 z2
                                  refine gr_ldc C (-1000003) v_i908 dL_isSo_235 ?_
                                  refine gr_icmp_ne C 270 dL_isSo_237 (by decide) (fun c237_21 => ?_) (fun c237_21 => ?_)
                                  · have h := h.2 c237_21
                                    refine gr_sub [0, 1, 3, 4] rfl ?_
                                    exact k270 t31 h
                                  · have h := h.1 c237_21
                                    refine gr_aloadn C 0 0 dL_isSo_240 rfl rfl ?_
                                    refine gr_iload C 4 dL_isSo_241 rfl ?_
                                    refine gr_iconst C 0 dL_isSo_243 (by decide) ?_
                                    refine gr_iconst C 1 dL_isSo_244 (by decide) ?_
                                    refine gr_iconst C 1 dL_isSo_245 (by decide) ?_
                                    obtain ⟨B32, hB32, hR32, h⟩ := h
                                    refine gr_callW C (y := yL_sheetPage) (as := [.ref o, .int z34.2.1, .int 0, .int 1, .int 1]) (by exact ⟨Nat.le_of_ble_eq_true rfl, Nat.le_of_ble_eq_true rfl⟩) B32 hB32 hR32 (c_L_sheetPage l D K E0 b0 B32 o z34.2.1 0 1 1 t31 _ h) hk_L_sheetPage rfl vs_L_268 kc_L_sheetPage dL_isSo_246 (Nat.le_of_ble_eq_true rfl) (fun r32 t32 h z1 z2 => ?_)
                                    have h := h z1 z2
                                    refine gr_ldc C (-1000003) v_i908 dL_isSo_249 ?_
                                    refine gr_icmp_ne C 270 dL_isSo_251 (by decide) (fun c251_22 => ?_) (fun c251_22 => ?_)
                                    · have h := h.2 c251_22
                                      refine gr_sub [0, 1, 3, 4] rfl ?_
                                      exact k270 t32 h
                                    · have h := h.1 c251_22
                                      refine gr_aloadn C 0 0 dL_isSo_254 rfl rfl ?_
                                      refine gr_iload C 4 dL_isSo_255 rfl ?_
                                      refine gr_iconst C 0 dL_isSo_257 (by decide) ?_
                                      obtain ⟨B33, hB33, hR33, h⟩ := h
                                      refine gr_callW C (y := yL_itemWidth) (as := [.ref o, .int z34.2.1, .int 0]) (by exact ⟨Nat.le_of_ble_eq_true rfl, Nat.le_of_ble_eq_true rfl⟩) B33 hB33 hR33 (c_L_itemWidth l D K E0 b0 B33 o z34.2.1 0 t32 _ h) hk_L_itemWidth rfl vs_L_234 kc_L_itemWidth dL_isSo_258 (Nat.le_of_ble_eq_true rfl) (fun r33 t33 h z1 z2 => ?_)
                                      have h := h z1 z2
                                      refine gr_ldc C (-1000003) v_i908 dL_isSo_261 ?_
                                      refine gr_icmp_ne C 270 dL_isSo_263 (by decide) (fun c263_23 => ?_) (fun c263_23 => ?_)
                                      · have h := h.2 c263_23
                                        refine gr_sub [0, 1, 3, 4] rfl ?_
                                        exact k270 t33 h
                                      · have h := h.1 c263_23
                                        refine gr_iconst C 1 dL_isSo_266 (by decide) ?_
                                        refine gr_goto C 271 dL_isSo_267 (by decide) ?_
                                        refine gr_sub [0, 1, 3, 4] rfl ?_
                                        exact k271 1 t33 h
              · have h := h.2 c84_11
                refine gr_aloadn C 0 0 dL_isSo_87 rfl rfl ?_
                refine gr_aloadn C 1 1 dL_isSo_88 rfl rfl ?_
                refine gr_iload C 4 dL_isSo_89 rfl ?_
                obtain ⟨B34, hB34, hR34, h⟩ := h
                refine gr_callS C (y := yL_areItems) (as := [.ref o, .ref a1, .int z34.2.1]) (by exact ⟨Nat.le_of_ble_eq_true rfl, Nat.le_of_ble_eq_true rfl⟩) B34 hB34 hR34 (c_L_areItems l D K E0 b0 B34 o a1 z34.2.1 t18 _ h) hk_L_areItems rfl vs_L_279 kc_L_areItems dL_isSo_91 (Nat.le_of_ble_eq_true rfl) (fun r34 t34 h z1 z2 => ?_)
                have h := h z1 z2
                obtain ⟨J122, hJ122, h⟩ := h
                have k122 : ∀ x35 : Int32, ∀ t36 : LwS, J122 x35 t36 → GR p l e (rmC 15 B t.1) s m args below meth c 6 D K E0 B b0 (gr_Q below D K E0 b0 Q args s (rmC 15 B t.1)) t36 122 [(0, .ref o), (1, .ref a1), (4, .int x5), (5, .int z34.2.1)] [.int x35] := by
                  intro x35 t36 h
                  have h := hJ122 x35 t36 h
                  refine gr_istoren C 3 [(3, .int x35), (0, .ref o), (1, .ref a1), (4, .int x5), (5, .int z34.2.1)] dL_isSo_122 rfl (by decide) rfl ?_
                  refine gr_goto C 272 dL_isSo_123 (by decide) ?_
                  refine gr_sub [1, 2, 0, 3, 4] rfl ?_
                  exact k272 x35 t36 h
                obtain ⟨J121, hJ121, h⟩ := h
                have k121 : ∀ t37 : LwS, J121 t37 → GR p l e (rmC 15 B t.1) s m args below meth c 6 D K E0 B b0 (gr_Q below D K E0 b0 Q args s (rmC 15 B t.1)) t37 121 [(0, .ref o), (1, .ref a1), (4, .int x5), (5, .int z34.2.1)] [] := by
                  intro t37 h
                  have h := hJ121 t37 h
                  refine gr_iconst C 0 dL_isSo_121 (by decide) ?_
                  exact k122 0 t37 h
                refine gr_if_eq C 121 dL_isSo_94 (by decide) (fun c94_24 => ?_) (fun c94_24 => ?_)
                · have h := h.1 c94_24
                  refine gr_sub [0, 1, 3, 4] rfl ?_
                  exact k121 t34 h
                · have h := h.2 c94_24
                  refine gr_aloadn C 0 0 dL_isSo_97 rfl rfl ?_
                  refine gr_aloadn C 1 1 dL_isSo_98 rfl rfl ?_
                  refine gr_iload C 4 dL_isSo_99 rfl ?_
                  obtain ⟨B38, hB38, hR38, h⟩ := h
                  refine gr_callS C (y := yL_areLines) (as := [.ref o, .ref a1, .int z34.2.1]) (by exact ⟨Nat.le_of_ble_eq_true rfl, Nat.le_of_ble_eq_true rfl⟩) B38 hB38 hR38 (c_L_areLines l D K E0 b0 B38 o a1 z34.2.1 t34 _ h) hk_L_areLines rfl vs_L_283 kc_L_areLines dL_isSo_101 (Nat.le_of_ble_eq_true rfl) (fun r38 t38 h z1 z2 => ?_)
                  have h := h z1 z2
                  refine gr_if_eq C 121 dL_isSo_104 (by decide) (fun c104_25 => ?_) (fun c104_25 => ?_)
                  · have h := h.1 c104_25
                    refine gr_sub [0, 1, 3, 4] rfl ?_
                    exact k121 t38 h
                  · have h := h.2 c104_25
                    refine gr_aloadn C 0 0 dL_isSo_107 rfl rfl ?_
                    refine gr_aloadn C 1 1 dL_isSo_108 rfl rfl ?_
                    refine gr_iload C 4 dL_isSo_109 rfl ?_
                    obtain ⟨B39, hB39, hR39, h⟩ := h
                    refine gr_callS C (y := yL_arePages) (as := [.ref o, .ref a1, .int z34.2.1]) (by exact ⟨Nat.le_of_ble_eq_true rfl, Nat.le_of_ble_eq_true rfl⟩) B39 hB39 hR39 (c_L_arePages l D K E0 b0 B39 o a1 z34.2.1 t38 _ h) hk_L_arePages rfl vs_L_286 kc_L_arePages dL_isSo_111 (Nat.le_of_ble_eq_true rfl) (fun r39 t39 h z1 z2 => ?_)
                    have h := h z1 z2
                    refine gr_if_eq C 121 dL_isSo_114 (by decide) (fun c114_26 => ?_) (fun c114_26 => ?_)
                    · have h := h.1 c114_26
                      refine gr_sub [0, 1, 3, 4] rfl ?_
                      exact k121 t39 h
                    · have h := h.2 c114_26
                      refine gr_iconst C 1 dL_isSo_117 (by decide) ?_
                      refine gr_goto C 122 dL_isSo_118 (by decide) ?_
                      refine gr_sub [0, 1, 3, 4] rfl ?_
                      exact k122 1 t39 h
            have kf44 : ¬ ((r15 < 0) ∨ (z34.2.1 = x5)) → GR p l e (rmC 15 B t.1) s m args below meth c 6 D K E0 B b0 (gr_Q below D K E0 b0 Q args s (rmC 15 B t.1)) t15 60 [(0, .ref o), (1, .ref a1), (3, .int z34.1), (4, .int x5), (5, .int z34.2.1)] [] := by
              intro hc
              have h := h.2 hc
              refine gr_aloadn C 0 0 dL_isSo_60 rfl rfl ?_
              refine gr_iload C 4 dL_isSo_61 rfl ?_
              obtain ⟨B40, hB40, hR40, h⟩ := h
              refine gr_callW C (y := yL_badness) (as := [.ref o, .int z34.2.1]) (by exact ⟨Nat.le_of_ble_eq_true rfl, Nat.le_of_ble_eq_true rfl⟩) B40 hB40 hR40 (c_L_badness l D K E0 b0 B40 o z34.2.1 t15 _ h) hk_L_badness rfl vs_L_248 kc_L_badness dL_isSo_63 (Nat.le_of_ble_eq_true rfl) (fun r40 t40 h z1 z2 => ?_)
              have h := h z1 z2
              have k74 : ∀ x41 : Int32, x41 = (if ¬ (r40 < 0) then 1 else 0) → GR p l e (rmC 15 B t.1) s m args below meth c 6 D K E0 B b0 (gr_Q below D K E0 b0 Q args s (rmC 15 B t.1)) t40 74 [(0, .ref o), (1, .ref a1), (4, .int x5), (5, .int z34.2.1)] [.int x41] := by
                intro x41 ex41
                have h := h x41 ex41
                refine gr_istoren C 3 [(3, .int x41), (0, .ref o), (1, .ref a1), (4, .int x5), (5, .int z34.2.1)] dL_isSo_74 rfl (by decide) rfl ?_
                refine gr_goto C 272 dL_isSo_75 (by decide) ?_
                refine gr_sub [1, 2, 0, 3, 4] rfl ?_
                exact k272 x41 t40 h
              refine gr_if_lt C 73 dL_isSo_66 (by decide) (fun c66_27 => ?_) (fun c66_27 => ?_)
              · refine gr_iconst C 0 dL_isSo_73 (by decide) ?_
                refine gr_sub [0, 1, 3, 4] rfl ?_
                exact k74 _ ((if_neg (fun q0 => q0 c66_27)).symm)
              · refine gr_iconst C 1 dL_isSo_69 (by decide) ?_
                refine gr_goto C 74 dL_isSo_70 (by decide) ?_
                refine gr_sub [0, 1, 3, 4] rfl ?_
                exact k74 _ ((if_pos c66_27).symm)
            refine gr_if_lt C 78 dL_isSo_50 (by decide) (fun c50_9 => ?_) (fun c50_9 => ?_)
            · exact kt44 (Or.inl c50_9)
            · refine gr_iload C 4 dL_isSo_53 rfl ?_
              refine gr_iload C 3 dL_isSo_55 rfl ?_
              refine gr_icmp_eq C 78 dL_isSo_57 (by decide) (fun c57_10 => ?_) (fun c57_10 => ?_)
              · exact kt44 (Or.inr c57_10)
              · exact kf44 (fun q0 => Or.elim q0 c50_9 c57_10)
    exact k34 n34 (x2, 0, t3) h
  obtain ⟨J20, hJ20, h⟩ := h
  have k20 : ∀ t42 : LwS, J20 t42 → GR p l e (rmC 15 B t.1) s m args below meth c 6 D K E0 B b0 (gr_Q below D K E0 b0 Q args s (rmC 15 B t.1)) t42 20 [(0, .ref o), (1, .ref a1), (2, .int a2)] [] := by
    intro t42 h
    have h := hJ20 t42 h
    refine gr_iconst C 0 dL_isSo_20 (by decide) ?_
    exact k21 0 t42 h
  refine gr_if_eq C 20 dL_isSo_5 (by decide) (fun c5_28 => ?_) (fun c5_28 => ?_)
  · have h := h.1 c5_28
    exact k20 t1 h
  · have h := h.2 c5_28
    refine gr_aloadn C 0 0 dL_isSo_8 rfl rfl ?_
    refine gr_iloadn C 2 2 dL_isSo_9 rfl rfl ?_
    obtain ⟨B43, hB43, hR43, h⟩ := h
    refine gr_callS C (y := yL_areSounds) (as := [.ref o, .int a2]) (by exact ⟨Nat.le_of_ble_eq_true rfl, Nat.le_of_ble_eq_true rfl⟩) B43 hB43 hR43 (c_L_areSounds l D K E0 b0 B43 o a2 t1 _ h) hk_L_areSounds rfl vs_L_275 kc_L_areSounds dL_isSo_10 (Nat.le_of_ble_eq_true rfl) (fun r43 t43 h z1 z2 => ?_)
    have h := h z1 z2
    refine gr_if_eq C 20 dL_isSo_13 (by decide) (fun c13_29 => ?_) (fun c13_29 => ?_)
    · have h := h.1 c13_29
      exact k20 t43 h
    · have h := h.2 c13_29
      refine gr_iconst C 1 dL_isSo_16 (by decide) ?_
      refine gr_goto C 21 dL_isSo_17 (by decide) ?_
      exact k21 1 t43 h
def w_L_fills_L26 (B : Nat × Nat) (o : Nat) (a1 : Nat) (a2 : Int32) (a3 : Int32) (a5 : Int32) (Q : Int32 → LwS → Prop) (K26 : (Int32 × Int32 × Int32 × Int32 × Int32 × LwS) → Prop) (z26 : Int32 × Int32 × Int32 × Int32 × Int32 × LwS) : Prop := ∃ J150 : Prop, (J150 → (∃ J171 : Int32 → LwS → Prop, (∀ x3 : Int32, ∀ t4 : LwS, J171 x3 t4 → ((gb x3) ∧ Q x3 t4)) ∧ ∃ J170 : LwS → Prop, (∀ t6 : LwS, J170 t6 → (J171 0 t6)) ∧ (((z26.1 = 0) → J170 z26.2.2.2.2.2) ∧ (¬ (z26.1 = 0) → lcall B z26.2.2.2.2.2 (fun B1 K => w_L_events B1 o a2 a3 z26.2.2.2.2.2 K) (fun r7 t7 => ((r7 = z26.2.2.1) → J171 1 t7) ∧ (¬ (r7 = z26.2.2.1) → J170 t7)))))) ∧ (((24 ≤ z26.2.2.2.2.1) → J150) ∧ (¬ (24 ≤ z26.2.2.2.2.1) → (((z26.1 = 0) ∨ ((6 ≤ z26.2.2.2.1) ∨ (16 ≤ z26.2.2.1))) → J150) ∧ (¬ ((z26.1 = 0) ∨ ((6 ≤ z26.2.2.2.1) ∨ (16 ≤ z26.2.2.1))) → ∀ x8 : Int32, x8 = ((96 : Int32) >>> (z26.2.2.2.1 &&& 31)) → ∃ J144 : Int32 → Int32 → Int32 → Int32 → LwS → Prop, (∀ x9 : Int32, ∀ x10 : Int32, ∀ x11 : Int32, ∀ x12 : Int32, ∀ t13 : LwS, J144 x9 x10 x11 x12 t13 → (K26 (x9, x10, x11, x12, (z26.2.2.2.2.1 + 1), t13))) ∧ (((x8 ≤ z26.2.1) → ∀ x14 : Int32, x14 = (z26.2.1 - x8) → lcall B z26.2.2.2.2.2 (fun B1 K => w_L_insert B1 o a2 a3 z26.2.2.1 a5 z26.2.2.2.1 0 z26.2.2.2.2.2 K) (fun r15 t15 => ∃ J139 : Int32 → LwS → Prop, (∀ x16 : Int32, ∀ t17 : LwS, J139 x16 t17 → (J144 x16 x14 (z26.2.2.1 + 1) z26.2.2.2.1 t17)) ∧ ∃ J138 : LwS → Prop, (∀ t18 : LwS, J138 t18 → (J139 0 t18)) ∧ (((r15 = x14) → lcall B t15 (fun B1 K => w_L_left B1 o a2 a3 t15 K) (fun r19 t19 => ((r19 = x14) → lcall B t19 (fun B1 K => w_L_written B1 o a2 a3 z26.2.2.1 t19 K) (fun r20 t20 => ((¬ (a5 = 0)) → vp_in a2 (rN t20.2 a1)) ∧ ∀ x21 : Int32, x21 = (if a5 = 0 then ((-1) : Int32) else (a5 + (rG t20.2 a1 (Int32.toNatClampNeg a2)))) → ((r20 = x21) → J139 1 t20) ∧ (¬ (r20 = x21) → J138 t20))) ∧ (¬ (r19 = x14) → J138 t19))) ∧ (¬ (r15 = x14) → J138 t15)))) ∧ (¬ (x8 ≤ z26.2.1) → J144 z26.1 z26.2.1 z26.2.2.1 (z26.2.2.2.1 + 1) z26.2.2.2.2.2)))))
def w_L_fills (B : Nat × Nat) (o : Nat) (a1 : Nat) (a2 : Int32) (a3 : Int32) (a4 : Int32) (a5 : Int32) (t : LwS) (Q : Int32 → LwS → Prop) : Prop := lcall B t (fun B1 K => w_L_left B1 o a2 a3 t K) (fun r1 t1 => lcall B t1 (fun B1 K => w_L_events B1 o a2 a3 t1 K) (fun r2 t2 => ∃ n, lp (w_L_fills_L26 B o a1 a2 a3 a5 Q) n (1, r1, r2, a4, 0, t2)))
set_option maxRecDepth 20000 in
set_option maxHeartbeats 4000000 in
theorem c_L_fills (l : Launch) (D : va_G) (K : Nat → ClassId) (E0 b0 : Nat) (B : Nat × Nat) (o : Nat) (a1 : Nat) (a2 : Int32) (a3 : Int32) (a4 : Int32) (a5 : Int32) (t : LwS) (Q : Int32 → LwS → Prop) (h : w_L_fills B o a1 a2 a3 a4 a5 t Q) : MetR l yL_fills (.code yL_fills cL_fills 12 (some .boolean)) 11 [.ref o, .ref a1, .int a2, .int a3, .int a4, .int a5] Q D K E0 b0 B t := by
  unfold w_L_fills at h
  refine gr_start (by decide) rfl (Nat.le_of_ble_eq_true rfl) (fun p e s m args below meth c C E => ?_)
  refine gr_iconst C 1 dL_fills_0 (by decide) ?_
  refine gr_istore C [(6, .int 1), (0, .ref o), (1, .ref a1), (2, .int a2), (3, .int a3), (4, .int a4), (5, .int a5)] dL_fills_1 (by decide) rfl ?_
  refine gr_aloadn C 1 0 dL_fills_3 rfl rfl ?_
  refine gr_iloadn C 3 2 dL_fills_4 rfl rfl ?_
  refine gr_iloadn C 4 3 dL_fills_5 rfl rfl ?_
  obtain ⟨B1, hB1, hR1, h⟩ := h
  refine gr_callW C (y := yL_left) (as := [.ref o, .int a2, .int a3]) (by exact ⟨Nat.le_of_ble_eq_true rfl, Nat.le_of_ble_eq_true rfl⟩) B1 hB1 hR1 (c_L_left l D K E0 b0 B1 o a2 a3 t _ h) hk_L_left rfl vs_L_289 kc_L_left dL_fills_6 (Nat.le_of_ble_eq_true rfl) (fun r1 t1 h z1 z2 => ?_)
  have h := h z1 z2
  refine gr_istore C [(7, .int r1), (6, .int 1), (0, .ref o), (1, .ref a1), (2, .int a2), (3, .int a3), (4, .int a4), (5, .int a5)] dL_fills_9 (by decide) rfl ?_
  refine gr_aloadn C 2 0 dL_fills_11 rfl rfl ?_
  refine gr_iloadn C 4 2 dL_fills_12 rfl rfl ?_
  refine gr_iloadn C 5 3 dL_fills_13 rfl rfl ?_
  obtain ⟨B2, hB2, hR2, h⟩ := h
  refine gr_callW C (y := yL_events) (as := [.ref o, .int a2, .int a3]) (by exact ⟨Nat.le_of_ble_eq_true rfl, Nat.le_of_ble_eq_true rfl⟩) B2 hB2 hR2 (c_L_events l D K E0 b0 B2 o a2 a3 t1 _ h) hk_L_events rfl vs_L_236 kc_L_events dL_fills_14 (Nat.le_of_ble_eq_true rfl) (fun r2 t2 h z1 z2 => ?_)
  have h := h z1 z2
  refine gr_istore C [(8, .int r2), (7, .int r1), (6, .int 1), (0, .ref o), (1, .ref a1), (2, .int a2), (3, .int a3), (4, .int a4), (5, .int a5)] dL_fills_17 (by decide) rfl ?_
  refine gr_iload C 7 dL_fills_19 rfl ?_
  refine gr_istore C [(9, .int a4), (8, .int r2), (7, .int r1), (6, .int 1), (0, .ref o), (1, .ref a1), (2, .int a2), (3, .int a3), (4, .int a4), (5, .int a5)] dL_fills_21 (by decide) rfl ?_
  refine gr_iconst C 0 dL_fills_23 (by decide) ?_
  refine gr_istore C [(10, .int 0), (9, .int a4), (8, .int r2), (7, .int r1), (6, .int 1), (0, .ref o), (1, .ref a1), (2, .int a2), (3, .int a3), (4, .int a4), (5, .int a5)] dL_fills_24 (by decide) rfl ?_
  refine gr_sub [5, 6, 7, 8, 10, 4, 3, 2, 1, 0] rfl ?_
  obtain ⟨n26, h⟩ := h
  have k26 : ∀ (n26 : Nat) (z26 : Int32 × Int32 × Int32 × Int32 × Int32 × LwS), lp (w_L_fills_L26 B o a1 a2 a3 a5 Q) n26 z26 → GR p l e (rmC 11 B t.1) s m args below meth c 12 D K E0 B b0 (gr_Q below D K E0 b0 Q args s (rmC 11 B t.1)) z26.2.2.2.2.2 26 [(0, .ref o), (1, .ref a1), (2, .int a2), (3, .int a3), (5, .int a5), (6, .int z26.1), (7, .int z26.2.1), (8, .int z26.2.2.1), (9, .int z26.2.2.2.1), (10, .int z26.2.2.2.2.1)] [] := by
    intro n26
    induction n26 with
    | zero => intro z26 h; exact h.elim
    | succ n26 ih26 =>
      intro z26 h
      have h : w_L_fills_L26 B o a1 a2 a3 a5 Q (lp (w_L_fills_L26 B o a1 a2 a3 a5 Q) n26) z26 := h
      unfold w_L_fills_L26 at h
      refine gr_iload C 9 dL_fills_26 rfl ?_
      refine gr_bipush C 24 dL_fills_28 (by decide) ?_
      obtain ⟨J150, hJ150, h⟩ := h
      have k150 : J150 → GR p l e (rmC 11 B t.1) s m args below meth c 12 D K E0 B b0 (gr_Q below D K E0 b0 Q args s (rmC 11 B t.1)) z26.2.2.2.2.2 150 [(0, .ref o), (2, .int a2), (3, .int a3), (6, .int z26.1), (8, .int z26.2.2.1)] [] := by
        intro  h
        have h := hJ150 h
        refine gr_iload C 3 dL_fills_150 rfl ?_
        obtain ⟨J171, hJ171, h⟩ := h
        have k171 : ∀ x3 : Int32, ∀ t4 : LwS, J171 x3 t4 → GR p l e (rmC 11 B t.1) s m args below meth c 12 D K E0 B b0 (gr_Q below D K E0 b0 Q args s (rmC 11 B t.1)) t4 171 [] [.int x3] := by
          intro x3 t4 h
          have h := hJ171 x3 t4 h
          obtain ⟨g5, h⟩ := h
          exact gr_zret C E g5 dL_fills_171 h
        obtain ⟨J170, hJ170, h⟩ := h
        have k170 : ∀ t6 : LwS, J170 t6 → GR p l e (rmC 11 B t.1) s m args below meth c 12 D K E0 B b0 (gr_Q below D K E0 b0 Q args s (rmC 11 B t.1)) t6 170 [] [] := by
          intro t6 h
          have h := hJ170 t6 h
          refine gr_iconst C 0 dL_fills_170 (by decide) ?_
          exact k171 0 t6 h
        refine gr_if_eq C 170 dL_fills_152 (by decide) (fun c152_1 => ?_) (fun c152_1 => ?_)
        · have h := h.1 c152_1
          refine gr_sub [] rfl ?_
          exact k170 z26.2.2.2.2.2 h
        · have h := h.2 c152_1
          refine gr_aloadn C 0 0 dL_fills_155 rfl rfl ?_
          refine gr_iloadn C 1 2 dL_fills_156 rfl rfl ?_
          refine gr_iloadn C 2 3 dL_fills_157 rfl rfl ?_
          obtain ⟨B7, hB7, hR7, h⟩ := h
          refine gr_callW C (y := yL_events) (as := [.ref o, .int a2, .int a3]) (by exact ⟨Nat.le_of_ble_eq_true rfl, Nat.le_of_ble_eq_true rfl⟩) B7 hB7 hR7 (c_L_events l D K E0 b0 B7 o a2 a3 z26.2.2.2.2.2 _ h) hk_L_events rfl vs_L_236 kc_L_events dL_fills_158 (Nat.le_of_ble_eq_true rfl) (fun r7 t7 h z1 z2 => ?_)
          have h := h z1 z2
          refine gr_iload C 4 dL_fills_161 rfl ?_
          refine gr_icmp_ne C 170 dL_fills_163 (by decide) (fun c163_2 => ?_) (fun c163_2 => ?_)
          · have h := h.2 c163_2
            refine gr_sub [] rfl ?_
            exact k170 t7 h
          · have h := h.1 c163_2
            refine gr_iconst C 1 dL_fills_166 (by decide) ?_
            refine gr_goto C 171 dL_fills_167 (by decide) ?_
            refine gr_sub [] rfl ?_
            exact k171 1 t7 h
      refine gr_icmp_ge C 150 dL_fills_30 (by decide) (fun c30_3 => ?_) (fun c30_3 => ?_)
      · have h := h.1 c30_3
        refine gr_sub [0, 2, 3, 5, 7] rfl ?_
        exact k150 h
      · have h := h.2 c30_3
        refine gr_iload C 5 dL_fills_33 rfl ?_
        have kt33 : ((z26.1 = 0) ∨ ((6 ≤ z26.2.2.2.1) ∨ (16 ≤ z26.2.2.1))) → GR p l e (rmC 11 B t.1) s m args below meth c 12 D K E0 B b0 (gr_Q below D K E0 b0 Q args s (rmC 11 B t.1)) z26.2.2.2.2.2 150 [(0, .ref o), (1, .ref a1), (2, .int a2), (3, .int a3), (5, .int a5), (6, .int z26.1), (7, .int z26.2.1), (8, .int z26.2.2.1), (9, .int z26.2.2.2.1), (10, .int z26.2.2.2.2.1)] [] := by
          intro hc
          have h := h.1 hc
          refine gr_sub [0, 2, 3, 5, 7] rfl ?_
          exact k150 h
        have kf33 : ¬ ((z26.1 = 0) ∨ ((6 ≤ z26.2.2.2.1) ∨ (16 ≤ z26.2.2.1))) → GR p l e (rmC 11 B t.1) s m args below meth c 12 D K E0 B b0 (gr_Q below D K E0 b0 Q args s (rmC 11 B t.1)) z26.2.2.2.2.2 52 [(0, .ref o), (1, .ref a1), (2, .int a2), (3, .int a3), (5, .int a5), (6, .int z26.1), (7, .int z26.2.1), (8, .int z26.2.2.1), (9, .int z26.2.2.2.1), (10, .int z26.2.2.2.2.1)] [] := by
          intro hc
          have h := h.2 hc
          refine gr_bipush C 96 dL_fills_52 (by decide) ?_
          refine gr_iload C 8 dL_fills_54 rfl ?_
          refine gr_ishr C dL_fills_56 ?_
          refine gr_nameI (fun x8 ex8 => ?_)
          have h := h x8 ex8
          refine gr_istore C [(11, .int x8), (0, .ref o), (1, .ref a1), (2, .int a2), (3, .int a3), (5, .int a5), (6, .int z26.1), (7, .int z26.2.1), (8, .int z26.2.2.1), (9, .int z26.2.2.2.1), (10, .int z26.2.2.2.2.1)] dL_fills_57 (by decide) rfl ?_
          refine gr_iload C 7 dL_fills_59 rfl ?_
          refine gr_iload C 0 dL_fills_61 rfl ?_
          obtain ⟨J144, hJ144, h⟩ := h
          have k144 : ∀ x9 : Int32, ∀ x10 : Int32, ∀ x11 : Int32, ∀ x12 : Int32, ∀ t13 : LwS, J144 x9 x10 x11 x12 t13 → GR p l e (rmC 11 B t.1) s m args below meth c 12 D K E0 B b0 (gr_Q below D K E0 b0 Q args s (rmC 11 B t.1)) t13 144 [(0, .ref o), (1, .ref a1), (2, .int a2), (3, .int a3), (5, .int a5), (6, .int x9), (7, .int x10), (8, .int x11), (9, .int x12), (10, .int z26.2.2.2.2.1)] [] := by
            intro x9 x10 x11 x12 t13 h
            have h := hJ144 x9 x10 x11 x12 t13 h
            refine gr_iinc C 9 (z26.2.2.2.2.1 + 1) [(10, .int (z26.2.2.2.2.1 + 1)), (0, .ref o), (1, .ref a1), (2, .int a2), (3, .int a3), (5, .int a5), (6, .int x9), (7, .int x10), (8, .int x11), (9, .int x12)] dL_fills_144 rfl rfl (by decide) rfl ?_
            refine gr_goto C 26 dL_fills_147 (by decide) ?_
            refine gr_sub [1, 2, 3, 4, 5, 6, 7, 8, 9, 0] rfl ?_
            have h9 := ih26 (x9, x10, x11, x12, (z26.2.2.2.2.1 + 1), t13) h
            exact h9
          refine gr_icmp_ge C 72 dL_fills_63 (by decide) (fun c63_7 => ?_) (fun c63_7 => ?_)
          · have h := h.1 c63_7
            refine gr_iload C 7 dL_fills_72 rfl ?_
            refine gr_iload C 0 dL_fills_74 rfl ?_
            refine gr_isub C dL_fills_76 ?_
            refine gr_nameI (fun x14 ex14 => ?_)
            have h := h x14 ex14
            refine gr_istore C [(7, .int x14), (11, .int x8), (0, .ref o), (1, .ref a1), (2, .int a2), (3, .int a3), (5, .int a5), (6, .int z26.1), (8, .int z26.2.2.1), (9, .int z26.2.2.2.1), (10, .int z26.2.2.2.2.1)] dL_fills_77 (by decide) rfl ?_
            refine gr_aloadn C 2 0 dL_fills_79 rfl rfl ?_
            refine gr_iloadn C 4 2 dL_fills_80 rfl rfl ?_
            refine gr_iloadn C 5 3 dL_fills_81 rfl rfl ?_
            refine gr_iload C 8 dL_fills_82 rfl ?_
            refine gr_iload C 6 dL_fills_84 rfl ?_
            refine gr_iload C 9 dL_fills_86 rfl ?_
            refine gr_iconst C 0 dL_fills_88 (by decide) ?_
            obtain ⟨B15, hB15, hR15, h⟩ := h
            refine gr_callW C (y := yL_insert) (as := [.ref o, .int a2, .int a3, .int z26.2.2.1, .int a5, .int z26.2.2.2.1, .int 0]) (by exact ⟨Nat.le_of_ble_eq_true rfl, Nat.le_of_ble_eq_true rfl⟩) B15 hB15 hR15 (c_L_insert l D K E0 b0 B15 o a2 a3 z26.2.2.1 a5 z26.2.2.2.1 0 z26.2.2.2.2.2 _ h) hk_L_insert rfl vs_L_291 kc_L_insert dL_fills_89 (Nat.le_of_ble_eq_true rfl) (fun r15 t15 h z1 z2 => ?_)
            have h := h z1 z2
            refine gr_iload C 0 dL_fills_92 rfl ?_
            obtain ⟨J139, hJ139, h⟩ := h
            have k139 : ∀ x16 : Int32, ∀ t17 : LwS, J139 x16 t17 → GR p l e (rmC 11 B t.1) s m args below meth c 12 D K E0 B b0 (gr_Q below D K E0 b0 Q args s (rmC 11 B t.1)) t17 139 [(0, .ref o), (1, .ref a1), (2, .int a2), (3, .int a3), (5, .int a5), (7, .int x14), (8, .int z26.2.2.1), (9, .int z26.2.2.2.1), (10, .int z26.2.2.2.2.1)] [.int x16] := by
              intro x16 t17 h
              have h := hJ139 x16 t17 h
              refine gr_istore C [(6, .int x16), (0, .ref o), (1, .ref a1), (2, .int a2), (3, .int a3), (5, .int a5), (7, .int x14), (8, .int z26.2.2.1), (9, .int z26.2.2.2.1), (10, .int z26.2.2.2.2.1)] dL_fills_139 (by decide) rfl ?_
              refine gr_iinc C 7 (z26.2.2.1 + 1) [(8, .int (z26.2.2.1 + 1)), (6, .int x16), (0, .ref o), (1, .ref a1), (2, .int a2), (3, .int a3), (5, .int a5), (7, .int x14), (9, .int z26.2.2.2.1), (10, .int z26.2.2.2.2.1)] dL_fills_141 rfl rfl (by decide) rfl ?_
              refine gr_sub [2, 3, 4, 5, 6, 1, 7, 0, 8, 9] rfl ?_
              exact k144 x16 x14 (z26.2.2.1 + 1) z26.2.2.2.1 t17 h
            obtain ⟨J138, hJ138, h⟩ := h
            have k138 : ∀ t18 : LwS, J138 t18 → GR p l e (rmC 11 B t.1) s m args below meth c 12 D K E0 B b0 (gr_Q below D K E0 b0 Q args s (rmC 11 B t.1)) t18 138 [(0, .ref o), (1, .ref a1), (2, .int a2), (3, .int a3), (5, .int a5), (7, .int x14), (8, .int z26.2.2.1), (9, .int z26.2.2.2.1), (10, .int z26.2.2.2.2.1)] [] := by
              intro t18 h
              have h := hJ138 t18 h
              refine gr_iconst C 0 dL_fills_138 (by decide) ?_
              exact k139 0 t18 h
            refine gr_icmp_ne C 138 dL_fills_94 (by decide) (fun c94_8 => ?_) (fun c94_8 => ?_)
            · have h := h.2 c94_8
              refine gr_sub [2, 3, 4, 5, 6, 0, 8, 9, 10] rfl ?_
              exact k138 t15 h
            · have h := h.1 c94_8
              refine gr_aloadn C 2 0 dL_fills_97 rfl rfl ?_
              refine gr_iloadn C 4 2 dL_fills_98 rfl rfl ?_
              refine gr_iloadn C 5 3 dL_fills_99 rfl rfl ?_
              obtain ⟨B19, hB19, hR19, h⟩ := h
              refine gr_callW C (y := yL_left) (as := [.ref o, .int a2, .int a3]) (by exact ⟨Nat.le_of_ble_eq_true rfl, Nat.le_of_ble_eq_true rfl⟩) B19 hB19 hR19 (c_L_left l D K E0 b0 B19 o a2 a3 t15 _ h) hk_L_left rfl vs_L_289 kc_L_left dL_fills_100 (Nat.le_of_ble_eq_true rfl) (fun r19 t19 h z1 z2 => ?_)
              have h := h z1 z2
              refine gr_iload C 0 dL_fills_103 rfl ?_
              refine gr_icmp_ne C 138 dL_fills_105 (by decide) (fun c105_9 => ?_) (fun c105_9 => ?_)
              · have h := h.2 c105_9
                refine gr_sub [2, 3, 4, 5, 6, 0, 8, 9, 10] rfl ?_
                exact k138 t19 h
              · have h := h.1 c105_9
                refine gr_aloadn C 2 0 dL_fills_108 rfl rfl ?_
                refine gr_iloadn C 4 2 dL_fills_109 rfl rfl ?_
                refine gr_iloadn C 5 3 dL_fills_110 rfl rfl ?_
                refine gr_iload C 8 dL_fills_111 rfl ?_
                obtain ⟨B20, hB20, hR20, h⟩ := h
                refine gr_callW C (y := yL_written) (as := [.ref o, .int a2, .int a3, .int z26.2.2.1]) (by exact ⟨Nat.le_of_ble_eq_true rfl, Nat.le_of_ble_eq_true rfl⟩) B20 hB20 hR20 (c_L_written l D K E0 b0 B20 o a2 a3 z26.2.2.1 t19 _ h) hk_L_written rfl vs_L_294 kc_L_written dL_fills_113 (Nat.le_of_ble_eq_true rfl) (fun r20 t20 h z1 z2 => ?_)
                have h := h z1 z2
                refine gr_iload C 6 dL_fills_116 rfl ?_
                obtain ⟨g22, h⟩ := h
                have k131 : ∀ x21 : Int32, x21 = (if a5 = 0 then ((-1) : Int32) else (a5 + (rG t20.2 a1 (Int32.toNatClampNeg a2)))) → GR p l e (rmC 11 B t.1) s m args below meth c 12 D K E0 B b0 (gr_Q below D K E0 b0 Q args s (rmC 11 B t.1)) t20 131 [(0, .ref o), (1, .ref a1), (2, .int a2), (3, .int a3), (5, .int a5), (7, .int x14), (8, .int z26.2.2.1), (9, .int z26.2.2.2.1), (10, .int z26.2.2.2.2.1)] [.int x21, .int r20] := by
                  intro x21 ex21
                  have h := h x21 ex21
                  refine gr_icmp_ne C 138 dL_fills_131 (by decide) (fun c131_11 => ?_) (fun c131_11 => ?_)
                  · have h := h.2 c131_11
                    exact k138 t20 h
                  · have h := h.1 c131_11
                    refine gr_iconst C 1 dL_fills_134 (by decide) ?_
                    refine gr_goto C 139 dL_fills_135 (by decide) ?_
                    exact k139 1 t20 h
                refine gr_if_ne C 125 dL_fills_118 (by decide) (fun c118_10 => ?_) (fun c118_10 => ?_)
                · refine gr_iload C 6 dL_fills_125 rfl ?_
                  refine gr_aloadn C 3 1 dL_fills_127 rfl rfl ?_
                  refine gr_iloadn C 4 2 dL_fills_128 rfl rfl ?_
                  refine gr_iald C (g22 c118_10) dL_fills_129 ?_
                  refine gr_iadd C dL_fills_130 ?_
                  refine gr_sub [2, 3, 4, 5, 6, 0, 8, 9, 10] rfl ?_
                  exact k131 _ ((if_neg c118_10).symm)
                · refine gr_iconst C (-1) dL_fills_121 (by decide) ?_
                  refine gr_goto C 131 dL_fills_122 (by decide) ?_
                  refine gr_sub [2, 3, 4, 5, 6, 0, 8, 9, 10] rfl ?_
                  exact k131 _ ((if_pos c118_10).symm)
          · have h := h.2 c63_7
            refine gr_iinc C 9 (z26.2.2.2.1 + 1) [(9, .int (z26.2.2.2.1 + 1)), (11, .int x8), (0, .ref o), (1, .ref a1), (2, .int a2), (3, .int a3), (5, .int a5), (6, .int z26.1), (7, .int z26.2.1), (8, .int z26.2.2.1), (10, .int z26.2.2.2.2.1)] dL_fills_66 rfl rfl (by decide) rfl ?_
            refine gr_goto C 144 dL_fills_69 (by decide) ?_
            refine gr_sub [2, 3, 4, 5, 6, 7, 8, 9, 0, 10] rfl ?_
            exact k144 z26.1 z26.2.1 z26.2.2.1 (z26.2.2.2.1 + 1) z26.2.2.2.2.2 h
        refine gr_if_eq C 150 dL_fills_35 (by decide) (fun c35_4 => ?_) (fun c35_4 => ?_)
        · exact kt33 (Or.inl c35_4)
        · refine gr_iload C 8 dL_fills_38 rfl ?_
          refine gr_bipush C 6 dL_fills_40 (by decide) ?_
          refine gr_icmp_ge C 150 dL_fills_42 (by decide) (fun c42_5 => ?_) (fun c42_5 => ?_)
          · exact kt33 (Or.inr (Or.inl c42_5))
          · refine gr_iload C 7 dL_fills_45 rfl ?_
            refine gr_bipush C 16 dL_fills_47 (by decide) ?_
            refine gr_icmp_ge C 150 dL_fills_49 (by decide) (fun c49_6 => ?_) (fun c49_6 => ?_)
            · exact kt33 (Or.inr (Or.inr c49_6))
            · exact kf33 (fun q0 => Or.elim q0 c35_4 (fun q1 => Or.elim q1 c42_5 c49_6))
  exact k26 n26 (1, r1, r2, a4, 0, t2) h
def w_L_edits (B : Nat × Nat) (o : Nat) (a1 : Nat) (a2 : Nat) (a3 : Int32) (a4 : Int32) (t : LwS) (Q : Int32 → LwS → Prop) : Prop := (d_L_low a3 4) ∧ ∀ x2 : Int32, x2 = (v_L_low a3 4) → (vp_in 0 (rN t.2 a1)) ∧ (d_L_low (a3 >>> (2 &&& 31)) (rG t.2 a1 (Int32.toNatClampNeg 0))) ∧ ∀ x5 : Int32, x5 = (v_L_low (a3 >>> (2 &&& 31)) (rG t.2 a1 (Int32.toNatClampNeg 0))) → lcall B t (fun B1 K => w_L_events B1 o x2 x5 t K) (fun r6 t6 => lcall B t6 (fun B1 K => w_L_left B1 o x2 x5 t6 K) (fun r7 t7 => (d_L_low a4 6) ∧ ∀ x9 : Int32, x9 = (v_L_low a4 6) → (d_L_low (a4 >>> (3 &&& 31)) 3) ∧ ∀ x11 : Int32, x11 = (v_L_low (a4 >>> (3 &&& 31)) 3) → (d_L_low (a4 >>> (5 &&& 31)) 4) ∧ ((¬ ((v_L_low (a4 >>> (5 &&& 31)) 4) = 0)) → d_L_low (a4 >>> (7 &&& 31)) 3) ∧ ∀ x13 : Int32, x13 = (if (v_L_low (a4 >>> (5 &&& 31)) 4) = 0 then (0 : Int32) else ((40 : Int32) + (v_L_low (a4 >>> (7 &&& 31)) 3))) → (d_L_low (a3 >>> (7 &&& 31)) 2) ∧ (((v_L_low (a3 >>> (7 &&& 31)) 2) = 0) → (d_L_low a4 3) ∧ lcall B t7 (fun B1 K => w_L_fills B1 o a2 x2 x5 ((1 : Int32) + (v_L_low a4 3)) x13 t7 K) (fun r17 t17 => (gb r17) ∧ Q r17 t17)) ∧ (¬ ((v_L_low (a3 >>> (7 &&& 31)) 2) = 0) → (d_L_low (a3 >>> (9 &&& 31)) 4) ∧ ∃ J226 : Prop, (J226 → ((d_L_low (a3 >>> (11 &&& 31)) 2) ∧ (((¬ ((v_L_low (a3 >>> (11 &&& 31)) 2) = 0)) ∨ (r6 ≤ 0)) → (d_L_low (a4 >>> (9 &&& 31)) (r6 + 1)) ∧ ∀ x22 : Int32, x22 = (v_L_low (a4 >>> (9 &&& 31)) (r6 + 1)) → ∀ x23 : Int32, x23 = (if (x9 < 5) ∨ (¬ (x11 = 1)) then 1 else 0) → ∀ x24 : Int32, x24 = (if x23 = 0 then ((-1000002) : Int32) else (if r6 = 16 then ((-1000003) : Int32) else (if (v_L_ticksOf x9 x11) ≤ r7 then (r7 - (v_L_ticksOf x9 x11)) else (-1000003)))) → lcall B t7 (fun B1 K => w_L_insert B1 o x2 x5 x22 x13 x9 x11 t7 K) (fun r25 t25 => ∃ J799 : Int32 → LwS → Prop, (∀ x26 : Int32, ∀ t27 : LwS, J799 x26 t27 → ((gb x26) ∧ Q x26 t27)) ∧ ∃ J798 : LwS → Prop, (∀ t29 : LwS, J798 t29 → (J799 0 t29)) ∧ (((r25 = x24) → lcall B t25 (fun B1 K => w_L_events B1 o x2 x5 t25 K) (fun r30 t30 => ∀ x31 : Int32, x31 = (if 0 ≤ x24 then (r6 + 1) else r6) → ((r30 = x31) → lcall B t30 (fun B1 K => w_L_insert B1 o x2 x5 (r6 + 2) 1 0 0 t30 K) (fun r32 t32 => ((r32 = (-1000001)) → (vp_in 0 (rN t32.2 a1)) ∧ lcall B t32 (fun B1 K => w_L_insert B1 o x2 (rG t32.2 a1 (Int32.toNatClampNeg 0)) 0 1 0 0 t32 K) (fun r34 t34 => ((r34 = (-1000001)) → lcall B t34 (fun B1 K => w_L_insert B1 o 4 0 0 1 0 0 t34 K) (fun r35 t35 => ((r35 = (-1000002)) → lcall B t35 (fun B1 K => w_L_insert B1 o x2 x5 0 128 0 0 t35 K) (fun r36 t36 => ((r36 = (-1000002)) → lcall B t36 (fun B1 K => w_L_insert B1 o x2 x5 0 1 6 0 t36 K) (fun r37 t37 => ((r37 = (-1000002)) → lcall B t37 (fun B1 K => w_L_insert B1 o x2 x5 0 1 0 3 t37 K) (fun r38 t38 => ((r38 = (-1000002)) → J799 1 t38) ∧ (¬ (r38 = (-1000002)) → J798 t38))) ∧ (¬ (r37 = (-1000002)) → J798 t37))) ∧ (¬ (r36 = (-1000002)) → J798 t36))) ∧ (¬ (r35 = (-1000002)) → J798 t35))) ∧ (¬ (r34 = (-1000001)) → J798 t34))) ∧ (¬ (r32 = (-1000001)) → J798 t32))) ∧ (¬ (r30 = x31) → J798 t30))) ∧ (¬ (r25 = x24) → J798 t25)))) ∧ (¬ ((¬ ((v_L_low (a3 >>> (11 &&& 31)) 2) = 0)) ∨ (r6 ≤ 0)) → (d_L_low a4 r6) ∧ ∀ x40 : Int32, x40 = (v_L_low a4 r6) → lcall B t7 (fun B1 K => w_L_written B1 o x2 x5 x40 t7 K) (fun r41 t41 => (d_L_low (a4 >>> (9 &&& 31)) 7) ∧ ∀ x43 : Int32, x43 = ((v_L_low (a4 >>> (9 &&& 31)) 7) - 1) → lcall B t41 (fun B1 K => w_L_setMark B1 o x2 x5 x40 x43 t41 K) (fun r44 t44 => (d_L_low (a4 >>> (12 &&& 31)) 2) ∧ ∀ x46 : Int32, x46 = (if (v_L_low (a4 >>> (12 &&& 31)) 2) = 0 then 1 else 0) → lcall B t44 (fun B1 K => w_L_setTie B1 o x2 x5 x40 x46 t44 K) (fun r47 t47 => ∃ J438 : Int32 → LwS → Prop, (∀ x48 : Int32, ∀ t49 : LwS, J438 x48 t49 → (∃ J561 : Int32 → LwS → Prop, (∀ x50 : Int32, ∀ t51 : LwS, J561 x50 t51 → ((gb x50) ∧ Q x50 t51)) ∧ ∃ J560 : LwS → Prop, (∀ t53 : LwS, J560 t53 → (J561 0 t53)) ∧ (((x48 = 0) → J560 t49) ∧ (¬ (x48 = 0) → lcall B t49 (fun B1 K => w_L_setPitch B1 o x2 x5 x40 x13 t49 K) (fun r54 t54 => ((¬ (r41 = (-1))) → vp_in x2 (rN t54.2 a2)) ∧ ∀ x55 : Int32, x55 = (if r41 = (-1) then (0 : Int32) else (r41 - (rG t54.2 a2 (Int32.toNatClampNeg x2)))) → ((r54 = x55) → lcall B t54 (fun B1 K => w_L_written B1 o x2 x5 x40 t54 K) (fun r57 t57 => ((¬ (x13 = 0)) → vp_in x2 (rN t57.2 a2)) ∧ ∀ x58 : Int32, x58 = (if x13 = 0 then ((-1) : Int32) else (x13 + (rG t57.2 a2 (Int32.toNatClampNeg x2)))) → ((r57 = x58) → lcall B t57 (fun B1 K => w_L_setPitch B1 o x2 x5 x40 128 t57 K) (fun r60 t60 => ((r60 = (-1000002)) → lcall B t60 (fun B1 K => w_L_setPitch B1 o x2 x5 r6 1 t60 K) (fun r61 t61 => ((r61 = (-1000001)) → lcall B t61 (fun B1 K => w_L_setTie B1 o x2 x5 r6 1 t61 K) (fun r62 t62 => ((r62 = (-1000001)) → J561 1 t62) ∧ (¬ (r62 = (-1000001)) → J560 t62))) ∧ (¬ (r61 = (-1000001)) → J560 t61))) ∧ (¬ (r60 = (-1000002)) → J560 t60))) ∧ (¬ (r57 = x58) → J560 t57))) ∧ (¬ (r54 = x55) → J560 t54)))))) ∧ ∃ J437 : LwS → Prop, (∀ t63 : LwS, J437 t63 → (J438 0 t63)) ∧ ((((r44 < (-1)) ∨ (6 ≤ r44)) → J437 t47) ∧ (¬ ((r44 < (-1)) ∨ (6 ≤ r44)) → lcall B t47 (fun B1 K => w_L_setMark B1 o x2 x5 x40 x43 t47 K) (fun r64 t64 => ((r64 = x43) → lcall B t64 (fun B1 K => w_L_setMark B1 o x2 x5 x40 6 t64 K) (fun r65 t65 => ((r65 = (-1000002)) → lcall B t65 (fun B1 K => w_L_setMark B1 o x2 x5 r6 0 t65 K) (fun r66 t66 => ((r66 = (-1000001)) → ∃ J433 : LwS → Prop, (∀ t67 : LwS, J433 t67 → (J438 1 t67)) ∧ (((r41 = (-1)) → ((r47 = (-1000003)) → J433 t66) ∧ (¬ (r47 = (-1000003)) → J437 t66)) ∧ (¬ (r41 = (-1)) → ((r47 < 0) → J437 t66) ∧ (¬ (r47 < 0) → lcall B t66 (fun B1 K => w_L_setTie B1 o x2 x5 x40 x46 t66 K) (fun r68 t68 => ∀ x69 : Int32, x69 = (if ¬ (x46 = 0) then 1 else 0) → ((r68 = x69) → J433 t68) ∧ (¬ (r68 = x69) → J437 t68)))))) ∧ (¬ (r66 = (-1000001)) → J437 t66))) ∧ (¬ (r65 = (-1000002)) → J437 t65))) ∧ (¬ (r64 = x43) → J437 t64)))))))))) ∧ ((((v_L_low (a3 >>> (9 &&& 31)) 4) = 0) → ((r6 ≤ 0) → J226) ∧ (¬ (r6 ≤ 0) → (d_L_low a4 r6) ∧ ∀ x71 : Int32, x71 = (v_L_low a4 r6) → lcall B t7 (fun B1 K => w_L_remove B1 o x2 x5 x71 t7 K) (fun r72 t72 => ∃ J225 : Int32 → LwS → Prop, (∀ x73 : Int32, ∀ t74 : LwS, J225 x73 t74 → ((gb x73) ∧ Q x73 t74)) ∧ ∃ J224 : LwS → Prop, (∀ t76 : LwS, J224 t76 → (J225 0 t76)) ∧ (((r72 ≤ 0) → J224 t72) ∧ (¬ (r72 ≤ 0) → lcall B t72 (fun B1 K => w_L_events B1 o x2 x5 t72 K) (fun r77 t77 => ((r77 = (r6 - 1)) → lcall B t77 (fun B1 K => w_L_left B1 o x2 x5 t77 K) (fun r78 t78 => ((r78 = (r7 + r72)) → lcall B t78 (fun B1 K => w_L_remove B1 o 4 x5 0 t78 K) (fun r79 t79 => ((r79 = (-1000002)) → lcall B t79 (fun B1 K => w_L_remove B1 o x2 x5 (r6 - 1) t79 K) (fun r80 t80 => ((r80 = (-1000001)) → J225 1 t80) ∧ (¬ (r80 = (-1000001)) → J224 t80))) ∧ (¬ (r79 = (-1000002)) → J224 t79))) ∧ (¬ (r78 = (r7 + r72)) → J224 t78))) ∧ (¬ (r77 = (r6 - 1)) → J224 t77))))))) ∧ (¬ ((v_L_low (a3 >>> (9 &&& 31)) 4) = 0) → J226)))))
set_option maxRecDepth 20000 in
set_option maxHeartbeats 4000000 in
theorem c_L_edits (l : Launch) (D : va_G) (K : Nat → ClassId) (E0 b0 : Nat) (B : Nat × Nat) (o : Nat) (a1 : Nat) (a2 : Nat) (a3 : Int32) (a4 : Int32) (t : LwS) (Q : Int32 → LwS → Prop) (h : w_L_edits B o a1 a2 a3 a4 t Q) : MetR l yL_edits (.code yL_edits cL_edits 19 (some .boolean)) 12 [.ref o, .ref a1, .ref a2, .int a3, .int a4] Q D K E0 b0 B t := by
  unfold w_L_edits at h
  refine gr_start (by decide) rfl (Nat.le_of_ble_eq_true rfl) (fun p e s m args below meth c C E => ?_)
  refine gr_iloadn C 3 3 dL_edits_0 rfl rfl ?_
  refine gr_iconst C 4 dL_edits_1 (by decide) ?_
  obtain ⟨g1, h⟩ := h
  refine gr_callP C (y := yL_low) (as := [.int a3, .int 4]) (by exact ⟨Nat.le_of_ble_eq_true rfl, Nat.le_of_ble_eq_true rfl⟩) (fun B1 => c_L_low l D K E0 b0 B1 a3 4 t g1) hk_L_low rfl vs_L_213 kc_L_low dL_edits_2 (Nat.le_of_ble_eq_true rfl) ?_
  refine gr_nameI (fun x2 ex2 => ?_)
  have h := h x2 ex2
  refine gr_istore C [(5, .int x2), (0, .ref o), (1, .ref a1), (2, .ref a2), (3, .int a3), (4, .int a4)] dL_edits_5 (by decide) rfl ?_
  refine gr_iloadn C 4 3 dL_edits_7 rfl rfl ?_
  refine gr_iconst C 2 dL_edits_8 (by decide) ?_
  refine gr_ishr C dL_edits_9 ?_
  refine gr_aloadn C 2 1 dL_edits_10 rfl rfl ?_
  refine gr_iconst C 0 dL_edits_11 (by decide) ?_
  obtain ⟨g3, h⟩ := h
  refine gr_iald C g3 dL_edits_12 ?_
  obtain ⟨g4, h⟩ := h
  refine gr_callP C (y := yL_low) (as := [.int (a3 >>> (2 &&& 31)), .int (rG t.2 a1 (Int32.toNatClampNeg 0))]) (by exact ⟨Nat.le_of_ble_eq_true rfl, Nat.le_of_ble_eq_true rfl⟩) (fun B1 => c_L_low l D K E0 b0 B1 (a3 >>> (2 &&& 31)) (rG t.2 a1 (Int32.toNatClampNeg 0)) t g4) hk_L_low rfl vs_L_213 kc_L_low dL_edits_13 (Nat.le_of_ble_eq_true rfl) ?_
  refine gr_nameI (fun x5 ex5 => ?_)
  have h := h x5 ex5
  refine gr_istore C [(6, .int x5), (5, .int x2), (0, .ref o), (1, .ref a1), (2, .ref a2), (3, .int a3), (4, .int a4)] dL_edits_16 (by decide) rfl ?_
  refine gr_aloadn C 2 0 dL_edits_18 rfl rfl ?_
  refine gr_iload C 1 dL_edits_19 rfl ?_
  refine gr_iload C 0 dL_edits_21 rfl ?_
  obtain ⟨B6, hB6, hR6, h⟩ := h
  refine gr_callW C (y := yL_events) (as := [.ref o, .int x2, .int x5]) (by exact ⟨Nat.le_of_ble_eq_true rfl, Nat.le_of_ble_eq_true rfl⟩) B6 hB6 hR6 (c_L_events l D K E0 b0 B6 o x2 x5 t _ h) hk_L_events rfl vs_L_236 kc_L_events dL_edits_23 (Nat.le_of_ble_eq_true rfl) (fun r6 t6 h z1 z2 => ?_)
  have h := h z1 z2
  refine gr_istore C [(7, .int r6), (6, .int x5), (5, .int x2), (0, .ref o), (1, .ref a1), (2, .ref a2), (3, .int a3), (4, .int a4)] dL_edits_26 (by decide) rfl ?_
  refine gr_aloadn C 3 0 dL_edits_28 rfl rfl ?_
  refine gr_iload C 2 dL_edits_29 rfl ?_
  refine gr_iload C 1 dL_edits_31 rfl ?_
  obtain ⟨B7, hB7, hR7, h⟩ := h
  refine gr_callW C (y := yL_left) (as := [.ref o, .int x2, .int x5]) (by exact ⟨Nat.le_of_ble_eq_true rfl, Nat.le_of_ble_eq_true rfl⟩) B7 hB7 hR7 (c_L_left l D K E0 b0 B7 o x2 x5 t6 _ h) hk_L_left rfl vs_L_289 kc_L_left dL_edits_33 (Nat.le_of_ble_eq_true rfl) (fun r7 t7 h z1 z2 => ?_)
  have h := h z1 z2
  refine gr_istore C [(8, .int r7), (7, .int r6), (6, .int x5), (5, .int x2), (0, .ref o), (1, .ref a1), (2, .ref a2), (3, .int a3), (4, .int a4)] dL_edits_36 (by decide) rfl ?_
  refine gr_iload C 8 dL_edits_38 rfl ?_
  refine gr_bipush C 6 dL_edits_40 (by decide) ?_
  obtain ⟨g8, h⟩ := h
  refine gr_callP C (y := yL_low) (as := [.int a4, .int 6]) (by exact ⟨Nat.le_of_ble_eq_true rfl, Nat.le_of_ble_eq_true rfl⟩) (fun B1 => c_L_low l D K E0 b0 B1 a4 6 t7 g8) hk_L_low rfl vs_L_213 kc_L_low dL_edits_42 (Nat.le_of_ble_eq_true rfl) ?_
  refine gr_nameI (fun x9 ex9 => ?_)
  have h := h x9 ex9
  refine gr_istore C [(9, .int x9), (8, .int r7), (7, .int r6), (6, .int x5), (5, .int x2), (0, .ref o), (1, .ref a1), (2, .ref a2), (3, .int a3), (4, .int a4)] dL_edits_45 (by decide) rfl ?_
  refine gr_iload C 9 dL_edits_47 rfl ?_
  refine gr_iconst C 3 dL_edits_49 (by decide) ?_
  refine gr_ishr C dL_edits_50 ?_
  refine gr_iconst C 3 dL_edits_51 (by decide) ?_
  obtain ⟨g10, h⟩ := h
  refine gr_callP C (y := yL_low) (as := [.int (a4 >>> (3 &&& 31)), .int 3]) (by exact ⟨Nat.le_of_ble_eq_true rfl, Nat.le_of_ble_eq_true rfl⟩) (fun B1 => c_L_low l D K E0 b0 B1 (a4 >>> (3 &&& 31)) 3 t7 g10) hk_L_low rfl vs_L_213 kc_L_low dL_edits_52 (Nat.le_of_ble_eq_true rfl) ?_
  refine gr_nameI (fun x11 ex11 => ?_)
  have h := h x11 ex11
  refine gr_istore C [(10, .int x11), (9, .int x9), (8, .int r7), (7, .int r6), (6, .int x5), (5, .int x2), (0, .ref o), (1, .ref a1), (2, .ref a2), (3, .int a3), (4, .int a4)] dL_edits_55 (by decide) rfl ?_
  refine gr_iload C 10 dL_edits_57 rfl ?_
  refine gr_iconst C 5 dL_edits_59 (by decide) ?_
  refine gr_ishr C dL_edits_60 ?_
  refine gr_iconst C 4 dL_edits_61 (by decide) ?_
  obtain ⟨g12, h⟩ := h
  refine gr_callP C (y := yL_low) (as := [.int (a4 >>> (5 &&& 31)), .int 4]) (by exact ⟨Nat.le_of_ble_eq_true rfl, Nat.le_of_ble_eq_true rfl⟩) (fun B1 => c_L_low l D K E0 b0 B1 (a4 >>> (5 &&& 31)) 4 t7 g12) hk_L_low rfl vs_L_213 kc_L_low dL_edits_62 (Nat.le_of_ble_eq_true rfl) ?_
  obtain ⟨g14, h⟩ := h
  have k84 : ∀ x13 : Int32, x13 = (if (v_L_low (a4 >>> (5 &&& 31)) 4) = 0 then (0 : Int32) else ((40 : Int32) + (v_L_low (a4 >>> (7 &&& 31)) 3))) → GR p l e (rmC 12 B t.1) s m args below meth c 19 D K E0 B b0 (gr_Q below D K E0 b0 Q args s (rmC 12 B t.1)) t7 84 [(0, .ref o), (1, .ref a1), (2, .ref a2), (3, .int a3), (4, .int a4), (5, .int x2), (6, .int x5), (7, .int r6), (8, .int r7), (9, .int x9), (10, .int x11)] [.int x13] := by
    intro x13 ex13
    have h := h x13 ex13
    refine gr_istore C [(11, .int x13), (0, .ref o), (1, .ref a1), (2, .ref a2), (3, .int a3), (4, .int a4), (5, .int x2), (6, .int x5), (7, .int r6), (8, .int r7), (9, .int x9), (10, .int x11)] dL_edits_84 (by decide) rfl ?_
    refine gr_iloadn C 4 3 dL_edits_86 rfl rfl ?_
    refine gr_bipush C 7 dL_edits_87 (by decide) ?_
    refine gr_ishr C dL_edits_89 ?_
    refine gr_iconst C 2 dL_edits_90 (by decide) ?_
    obtain ⟨g15, h⟩ := h
    refine gr_callP C (y := yL_low) (as := [.int (a3 >>> (7 &&& 31)), .int 2]) (by exact ⟨Nat.le_of_ble_eq_true rfl, Nat.le_of_ble_eq_true rfl⟩) (fun B1 => c_L_low l D K E0 b0 B1 (a3 >>> (7 &&& 31)) 2 t7 g15) hk_L_low rfl vs_L_213 kc_L_low dL_edits_91 (Nat.le_of_ble_eq_true rfl) ?_
    refine gr_if_ne C 117 dL_edits_94 (by decide) (fun c94_2 => ?_) (fun c94_2 => ?_)
    · have h := h.2 c94_2
      refine gr_iloadn C 4 3 dL_edits_117 rfl rfl ?_
      refine gr_bipush C 9 dL_edits_118 (by decide) ?_
      refine gr_ishr C dL_edits_120 ?_
      refine gr_iconst C 4 dL_edits_121 (by decide) ?_
      obtain ⟨g19, h⟩ := h
      refine gr_callP C (y := yL_low) (as := [.int (a3 >>> (9 &&& 31)), .int 4]) (by exact ⟨Nat.le_of_ble_eq_true rfl, Nat.le_of_ble_eq_true rfl⟩) (fun B1 => c_L_low l D K E0 b0 B1 (a3 >>> (9 &&& 31)) 4 t7 g19) hk_L_low rfl vs_L_213 kc_L_low dL_edits_122 (Nat.le_of_ble_eq_true rfl) ?_
      obtain ⟨J226, hJ226, h⟩ := h
      have k226 : J226 → GR p l e (rmC 12 B t.1) s m args below meth c 19 D K E0 B b0 (gr_Q below D K E0 b0 Q args s (rmC 12 B t.1)) t7 226 [(0, .ref o), (1, .ref a1), (2, .ref a2), (3, .int a3), (4, .int a4), (5, .int x2), (6, .int x5), (7, .int r6), (8, .int r7), (9, .int x9), (10, .int x11), (11, .int x13)] [] := by
        intro  h
        have h := hJ226 h
        refine gr_iloadn C 3 3 dL_edits_226 rfl rfl ?_
        refine gr_bipush C 11 dL_edits_227 (by decide) ?_
        refine gr_ishr C dL_edits_229 ?_
        refine gr_iconst C 2 dL_edits_230 (by decide) ?_
        obtain ⟨g20, h⟩ := h
        refine gr_callP C (y := yL_low) (as := [.int (a3 >>> (11 &&& 31)), .int 2]) (by exact ⟨Nat.le_of_ble_eq_true rfl, Nat.le_of_ble_eq_true rfl⟩) (fun B1 => c_L_low l D K E0 b0 B1 (a3 >>> (11 &&& 31)) 2 t7 g20) hk_L_low rfl vs_L_213 kc_L_low dL_edits_231 (Nat.le_of_ble_eq_true rfl) ?_
        have kt226 : ((¬ ((v_L_low (a3 >>> (11 &&& 31)) 2) = 0)) ∨ (r6 ≤ 0)) → GR p l e (rmC 12 B t.1) s m args below meth c 19 D K E0 B b0 (gr_Q below D K E0 b0 Q args s (rmC 12 B t.1)) t7 562 [(0, .ref o), (1, .ref a1), (2, .ref a2), (3, .int a3), (4, .int a4), (5, .int x2), (6, .int x5), (7, .int r6), (8, .int r7), (9, .int x9), (10, .int x11), (11, .int x13)] [] := by
          intro hc
          have h := h.1 hc
          refine gr_iload C 4 dL_edits_562 rfl ?_
          refine gr_bipush C 9 dL_edits_564 (by decide) ?_
          refine gr_ishr C dL_edits_566 ?_
          refine gr_iload C 7 dL_edits_567 rfl ?_
          refine gr_iconst C 1 dL_edits_569 (by decide) ?_
          refine gr_iadd C dL_edits_570 ?_
          obtain ⟨g21, h⟩ := h
          refine gr_callP C (y := yL_low) (as := [.int (a4 >>> (9 &&& 31)), .int (r6 + 1)]) (by exact ⟨Nat.le_of_ble_eq_true rfl, Nat.le_of_ble_eq_true rfl⟩) (fun B1 => c_L_low l D K E0 b0 B1 (a4 >>> (9 &&& 31)) (r6 + 1) t7 g21) hk_L_low rfl vs_L_213 kc_L_low dL_edits_571 (Nat.le_of_ble_eq_true rfl) ?_
          refine gr_nameI (fun x22 ex22 => ?_)
          have h := h x22 ex22
          refine gr_istore C [(12, .int x22), (0, .ref o), (1, .ref a1), (2, .ref a2), (3, .int a3), (4, .int a4), (5, .int x2), (6, .int x5), (7, .int r6), (8, .int r7), (9, .int x9), (10, .int x11), (11, .int x13)] dL_edits_574 (by decide) rfl ?_
          refine gr_iload C 10 dL_edits_576 rfl ?_
          refine gr_iconst C 5 dL_edits_578 (by decide) ?_
          have k593 : ∀ x23 : Int32, x23 = (if (x9 < 5) ∨ (¬ (x11 = 1)) then 1 else 0) → GR p l e (rmC 12 B t.1) s m args below meth c 19 D K E0 B b0 (gr_Q below D K E0 b0 Q args s (rmC 12 B t.1)) t7 593 [(0, .ref o), (1, .ref a1), (5, .int x2), (6, .int x5), (7, .int r6), (8, .int r7), (9, .int x9), (10, .int x11), (11, .int x13), (12, .int x22)] [.int x23] := by
            intro x23 ex23
            have h := h x23 ex23
            refine gr_istore C [(13, .int x23), (0, .ref o), (1, .ref a1), (5, .int x2), (6, .int x5), (7, .int r6), (8, .int r7), (9, .int x9), (10, .int x11), (11, .int x13), (12, .int x22)] dL_edits_593 (by decide) rfl ?_
            refine gr_iload C 0 dL_edits_595 rfl ?_
            have k639 : ∀ x24 : Int32, x24 = (if x23 = 0 then ((-1000002) : Int32) else (if r6 = 16 then ((-1000003) : Int32) else (if (v_L_ticksOf x9 x11) ≤ r7 then (r7 - (v_L_ticksOf x9 x11)) else (-1000003)))) → GR p l e (rmC 12 B t.1) s m args below meth c 19 D K E0 B b0 (gr_Q below D K E0 b0 Q args s (rmC 12 B t.1)) t7 639 [(0, .ref o), (1, .ref a1), (5, .int x2), (6, .int x5), (7, .int r6), (9, .int x9), (10, .int x11), (11, .int x13), (12, .int x22)] [.int x24] := by
              intro x24 ex24
              have h := h x24 ex24
              refine gr_istore C [(14, .int x24), (0, .ref o), (1, .ref a1), (5, .int x2), (6, .int x5), (7, .int r6), (9, .int x9), (10, .int x11), (11, .int x13), (12, .int x22)] dL_edits_639 (by decide) rfl ?_
              refine gr_aloadn C 1 0 dL_edits_641 rfl rfl ?_
              refine gr_iload C 3 dL_edits_642 rfl ?_
              refine gr_iload C 4 dL_edits_644 rfl ?_
              refine gr_iload C 9 dL_edits_646 rfl ?_
              refine gr_iload C 8 dL_edits_648 rfl ?_
              refine gr_iload C 6 dL_edits_650 rfl ?_
              refine gr_iload C 7 dL_edits_652 rfl ?_
              obtain ⟨B25, hB25, hR25, h⟩ := h
              refine gr_callW C (y := yL_insert) (as := [.ref o, .int x2, .int x5, .int x22, .int x13, .int x9, .int x11]) (by exact ⟨Nat.le_of_ble_eq_true rfl, Nat.le_of_ble_eq_true rfl⟩) B25 hB25 hR25 (c_L_insert l D K E0 b0 B25 o x2 x5 x22 x13 x9 x11 t7 _ h) hk_L_insert rfl vs_L_291 kc_L_insert dL_edits_654 (Nat.le_of_ble_eq_true rfl) (fun r25 t25 h z1 z2 => ?_)
              have h := h z1 z2
              refine gr_iload C 0 dL_edits_657 rfl ?_
              obtain ⟨J799, hJ799, h⟩ := h
              have k799 : ∀ x26 : Int32, ∀ t27 : LwS, J799 x26 t27 → GR p l e (rmC 12 B t.1) s m args below meth c 19 D K E0 B b0 (gr_Q below D K E0 b0 Q args s (rmC 12 B t.1)) t27 799 [] [.int x26] := by
                intro x26 t27 h
                have h := hJ799 x26 t27 h
                obtain ⟨g28, h⟩ := h
                exact gr_zret C E g28 dL_edits_799 h
              obtain ⟨J798, hJ798, h⟩ := h
              have k798 : ∀ t29 : LwS, J798 t29 → GR p l e (rmC 12 B t.1) s m args below meth c 19 D K E0 B b0 (gr_Q below D K E0 b0 Q args s (rmC 12 B t.1)) t29 798 [] [] := by
                intro t29 h
                have h := hJ798 t29 h
                refine gr_iconst C 0 dL_edits_798 (by decide) ?_
                exact k799 0 t29 h
              refine gr_icmp_ne C 798 dL_edits_659 (by decide) (fun c659_10 => ?_) (fun c659_10 => ?_)
              · have h := h.2 c659_10
                refine gr_sub [] rfl ?_
                exact k798 t25 h
              · have h := h.1 c659_10
                refine gr_aloadn C 1 0 dL_edits_662 rfl rfl ?_
                refine gr_iload C 3 dL_edits_663 rfl ?_
                refine gr_iload C 4 dL_edits_665 rfl ?_
                obtain ⟨B30, hB30, hR30, h⟩ := h
                refine gr_callW C (y := yL_events) (as := [.ref o, .int x2, .int x5]) (by exact ⟨Nat.le_of_ble_eq_true rfl, Nat.le_of_ble_eq_true rfl⟩) B30 hB30 hR30 (c_L_events l D K E0 b0 B30 o x2 x5 t25 _ h) hk_L_events rfl vs_L_236 kc_L_events dL_edits_667 (Nat.le_of_ble_eq_true rfl) (fun r30 t30 h z1 z2 => ?_)
                have h := h z1 z2
                refine gr_iload C 0 dL_edits_670 rfl ?_
                have k684 : ∀ x31 : Int32, x31 = (if 0 ≤ x24 then (r6 + 1) else r6) → GR p l e (rmC 12 B t.1) s m args below meth c 19 D K E0 B b0 (gr_Q below D K E0 b0 Q args s (rmC 12 B t.1)) t30 684 [(0, .ref o), (1, .ref a1), (5, .int x2), (6, .int x5), (7, .int r6)] [.int x31, .int r30] := by
                  intro x31 ex31
                  have h := h x31 ex31
                  refine gr_icmp_ne C 798 dL_edits_684 (by decide) (fun c684_12 => ?_) (fun c684_12 => ?_)
                  · have h := h.2 c684_12
                    refine gr_sub [] rfl ?_
                    exact k798 t30 h
                  · have h := h.1 c684_12
                    refine gr_aloadn C 0 0 dL_edits_687 rfl rfl ?_
                    refine gr_iload C 2 dL_edits_688 rfl ?_
                    refine gr_iload C 3 dL_edits_690 rfl ?_
                    refine gr_iload C 4 dL_edits_692 rfl ?_
                    refine gr_iconst C 2 dL_edits_694 (by decide) ?_
                    refine gr_iadd C dL_edits_695 ?_
                    refine gr_iconst C 1 dL_edits_696 (by decide) ?_
                    refine gr_iconst C 0 dL_edits_697 (by decide) ?_
                    refine gr_iconst C 0 dL_edits_698 (by decide) ?_
                    obtain ⟨B32, hB32, hR32, h⟩ := h
                    refine gr_callW C (y := yL_insert) (as := [.ref o, .int x2, .int x5, .int (r6 + 2), .int 1, .int 0, .int 0]) (by exact ⟨Nat.le_of_ble_eq_true rfl, Nat.le_of_ble_eq_true rfl⟩) B32 hB32 hR32 (c_L_insert l D K E0 b0 B32 o x2 x5 (r6 + 2) 1 0 0 t30 _ h) hk_L_insert rfl vs_L_291 kc_L_insert dL_edits_699 (Nat.le_of_ble_eq_true rfl) (fun r32 t32 h z1 z2 => ?_)
                    have h := h z1 z2
                    refine gr_ldc C (-1000001) v_i533 dL_edits_702 ?_
                    refine gr_icmp_ne C 798 dL_edits_704 (by decide) (fun c704_13 => ?_) (fun c704_13 => ?_)
                    · have h := h.2 c704_13
                      refine gr_sub [] rfl ?_
                      exact k798 t32 h
                    · have h := h.1 c704_13
                      refine gr_aloadn C 0 0 dL_edits_707 rfl rfl ?_
                      refine gr_iload C 2 dL_edits_708 rfl ?_
                      refine gr_aloadn C 1 1 dL_edits_710 rfl rfl ?_
                      refine gr_iconst C 0 dL_edits_711 (by decide) ?_
                      obtain ⟨g33, h⟩ := h
                      refine gr_iald C g33 dL_edits_712 ?_
                      refine gr_iconst C 0 dL_edits_713 (by decide) ?_
                      refine gr_iconst C 1 dL_edits_714 (by decide) ?_
                      refine gr_iconst C 0 dL_edits_715 (by decide) ?_
                      refine gr_iconst C 0 dL_edits_716 (by decide) ?_
                      obtain ⟨B34, hB34, hR34, h⟩ := h
                      refine gr_callW C (y := yL_insert) (as := [.ref o, .int x2, .int (rG t32.2 a1 (Int32.toNatClampNeg 0)), .int 0, .int 1, .int 0, .int 0]) (by exact ⟨Nat.le_of_ble_eq_true rfl, Nat.le_of_ble_eq_true rfl⟩) B34 hB34 hR34 (c_L_insert l D K E0 b0 B34 o x2 (rG t32.2 a1 (Int32.toNatClampNeg 0)) 0 1 0 0 t32 _ h) hk_L_insert rfl vs_L_291 kc_L_insert dL_edits_717 (Nat.le_of_ble_eq_true rfl) (fun r34 t34 h z1 z2 => ?_)
                      have h := h z1 z2
                      refine gr_ldc C (-1000001) v_i533 dL_edits_720 ?_
                      refine gr_icmp_ne C 798 dL_edits_722 (by decide) (fun c722_14 => ?_) (fun c722_14 => ?_)
                      · have h := h.2 c722_14
                        refine gr_sub [] rfl ?_
                        exact k798 t34 h
                      · have h := h.1 c722_14
                        refine gr_aloadn C 0 0 dL_edits_725 rfl rfl ?_
                        refine gr_iconst C 4 dL_edits_726 (by decide) ?_
                        refine gr_iconst C 0 dL_edits_727 (by decide) ?_
                        refine gr_iconst C 0 dL_edits_728 (by decide) ?_
                        refine gr_iconst C 1 dL_edits_729 (by decide) ?_
                        refine gr_iconst C 0 dL_edits_730 (by decide) ?_
                        refine gr_iconst C 0 dL_edits_731 (by decide) ?_
                        obtain ⟨B35, hB35, hR35, h⟩ := h
                        refine gr_callW C (y := yL_insert) (as := [.ref o, .int 4, .int 0, .int 0, .int 1, .int 0, .int 0]) (by exact ⟨Nat.le_of_ble_eq_true rfl, Nat.le_of_ble_eq_true rfl⟩) B35 hB35 hR35 (c_L_insert l D K E0 b0 B35 o 4 0 0 1 0 0 t34 _ h) hk_L_insert rfl vs_L_291 kc_L_insert dL_edits_732 (Nat.le_of_ble_eq_true rfl) (fun r35 t35 h z1 z2 => ?_)
                        have h := h z1 z2
                        refine gr_ldc C (-1000002) v_i617 dL_edits_735 ?_
                        refine gr_icmp_ne C 798 dL_edits_737 (by decide) (fun c737_15 => ?_) (fun c737_15 => ?_)
                        · have h := h.2 c737_15
                          refine gr_sub [] rfl ?_
                          exact k798 t35 h
                        · have h := h.1 c737_15
                          refine gr_aloadn C 0 0 dL_edits_740 rfl rfl ?_
                          refine gr_iload C 2 dL_edits_741 rfl ?_
                          refine gr_iload C 3 dL_edits_743 rfl ?_
                          refine gr_iconst C 0 dL_edits_745 (by decide) ?_
                          refine gr_sipush C 128 dL_edits_746 (by decide) ?_
                          refine gr_iconst C 0 dL_edits_749 (by decide) ?_
                          refine gr_iconst C 0 dL_edits_750 (by decide) ?_
                          obtain ⟨B36, hB36, hR36, h⟩ := h
                          refine gr_callW C (y := yL_insert) (as := [.ref o, .int x2, .int x5, .int 0, .int 128, .int 0, .int 0]) (by exact ⟨Nat.le_of_ble_eq_true rfl, Nat.le_of_ble_eq_true rfl⟩) B36 hB36 hR36 (c_L_insert l D K E0 b0 B36 o x2 x5 0 128 0 0 t35 _ h) hk_L_insert rfl vs_L_291 kc_L_insert dL_edits_751 (Nat.le_of_ble_eq_true rfl) (fun r36 t36 h z1 z2 => ?_)
                          have h := h z1 z2
                          refine gr_ldc C (-1000002) v_i617 dL_edits_754 ?_
                          refine gr_icmp_ne C 798 dL_edits_756 (by decide) (fun c756_16 => ?_) (fun c756_16 => ?_)
                          · have h := h.2 c756_16
                            refine gr_sub [] rfl ?_
                            exact k798 t36 h
                          · have h := h.1 c756_16
                            refine gr_aloadn C 0 0 dL_edits_759 rfl rfl ?_
                            refine gr_iload C 2 dL_edits_760 rfl ?_
                            refine gr_iload C 3 dL_edits_762 rfl ?_
                            refine gr_iconst C 0 dL_edits_764 (by decide) ?_
                            refine gr_iconst C 1 dL_edits_765 (by decide) ?_
                            refine gr_bipush C 6 dL_edits_766 (by decide) ?_
                            refine gr_iconst C 0 dL_edits_768 (by decide) ?_
                            obtain ⟨B37, hB37, hR37, h⟩ := h
                            refine gr_callW C (y := yL_insert) (as := [.ref o, .int x2, .int x5, .int 0, .int 1, .int 6, .int 0]) (by exact ⟨Nat.le_of_ble_eq_true rfl, Nat.le_of_ble_eq_true rfl⟩) B37 hB37 hR37 (c_L_insert l D K E0 b0 B37 o x2 x5 0 1 6 0 t36 _ h) hk_L_insert rfl vs_L_291 kc_L_insert dL_edits_769 (Nat.le_of_ble_eq_true rfl) (fun r37 t37 h z1 z2 => ?_)
                            have h := h z1 z2
                            refine gr_ldc C (-1000002) v_i617 dL_edits_772 ?_
                            refine gr_icmp_ne C 798 dL_edits_774 (by decide) (fun c774_17 => ?_) (fun c774_17 => ?_)
                            · have h := h.2 c774_17
                              refine gr_sub [] rfl ?_
                              exact k798 t37 h
                            · have h := h.1 c774_17
                              refine gr_aloadn C 0 0 dL_edits_777 rfl rfl ?_
                              refine gr_iload C 2 dL_edits_778 rfl ?_
                              refine gr_iload C 3 dL_edits_780 rfl ?_
                              refine gr_iconst C 0 dL_edits_782 (by decide) ?_
                              refine gr_iconst C 1 dL_edits_783 (by decide) ?_
                              refine gr_iconst C 0 dL_edits_784 (by decide) ?_
                              refine gr_iconst C 3 dL_edits_785 (by decide) ?_
                              obtain ⟨B38, hB38, hR38, h⟩ := h
                              refine gr_callW C (y := yL_insert) (as := [.ref o, .int x2, .int x5, .int 0, .int 1, .int 0, .int 3]) (by exact ⟨Nat.le_of_ble_eq_true rfl, Nat.le_of_ble_eq_true rfl⟩) B38 hB38 hR38 (c_L_insert l D K E0 b0 B38 o x2 x5 0 1 0 3 t37 _ h) hk_L_insert rfl vs_L_291 kc_L_insert dL_edits_786 (Nat.le_of_ble_eq_true rfl) (fun r38 t38 h z1 z2 => ?_)
                              have h := h z1 z2
                              refine gr_ldc C (-1000002) v_i617 dL_edits_789 ?_
                              refine gr_icmp_ne C 798 dL_edits_791 (by decide) (fun c791_18 => ?_) (fun c791_18 => ?_)
                              · have h := h.2 c791_18
                                refine gr_sub [] rfl ?_
                                exact k798 t38 h
                              · have h := h.1 c791_18
                                refine gr_iconst C 1 dL_edits_794 (by decide) ?_
                                refine gr_goto C 799 dL_edits_795 (by decide) ?_
                                refine gr_sub [] rfl ?_
                                exact k799 1 t38 h
                refine gr_if_ge C 680 dL_edits_672 (by decide) (fun c672_11 => ?_) (fun c672_11 => ?_)
                · refine gr_iload C 5 dL_edits_680 rfl ?_
                  refine gr_iconst C 1 dL_edits_682 (by decide) ?_
                  refine gr_iadd C dL_edits_683 ?_
                  refine gr_sub [1, 2, 3, 4, 5] rfl ?_
                  exact k684 _ ((if_pos c672_11).symm)
                · refine gr_iload C 5 dL_edits_675 rfl ?_
                  refine gr_goto C 684 dL_edits_677 (by decide) ?_
                  refine gr_sub [1, 2, 3, 4, 5] rfl ?_
                  exact k684 _ ((if_neg c672_11).symm)
            refine gr_if_ne C 605 dL_edits_597 (by decide) (fun c597_7 => ?_) (fun c597_7 => ?_)
            · refine gr_iload C 5 dL_edits_605 rfl ?_
              refine gr_bipush C 16 dL_edits_607 (by decide) ?_
              refine gr_icmp_eq C 624 dL_edits_609 (by decide) (fun c609_8 => ?_) (fun c609_8 => ?_)
              · refine gr_ldc C (-1000003) v_i908 dL_edits_624 ?_
                refine gr_goto C 639 dL_edits_626 (by decide) ?_
                refine gr_sub [1, 2, 3, 4, 5, 7, 8, 9, 10] rfl ?_
                exact k639 _ (((Eq.trans (if_neg c597_7) (if_pos c609_8))).symm)
              · refine gr_iload C 7 dL_edits_612 rfl ?_
                refine gr_iload C 8 dL_edits_614 rfl ?_
                refine gr_callP C (y := yL_ticksOf) (as := [.int x9, .int x11]) (by exact ⟨Nat.le_of_ble_eq_true rfl, Nat.le_of_ble_eq_true rfl⟩) (fun B1 => c_L_ticksOf l D K E0 b0 B1 x9 x11 t7) hk_L_ticksOf rfl vs_L_311 kc_L_ticksOf dL_edits_616 (Nat.le_of_ble_eq_true rfl) ?_
                refine gr_iload C 6 dL_edits_619 rfl ?_
                refine gr_icmp_le C 629 dL_edits_621 (by decide) (fun c621_9 => ?_) (fun c621_9 => ?_)
                · refine gr_iload C 6 dL_edits_629 rfl ?_
                  refine gr_iload C 7 dL_edits_631 rfl ?_
                  refine gr_iload C 8 dL_edits_633 rfl ?_
                  refine gr_callP C (y := yL_ticksOf) (as := [.int x9, .int x11]) (by exact ⟨Nat.le_of_ble_eq_true rfl, Nat.le_of_ble_eq_true rfl⟩) (fun B1 => c_L_ticksOf l D K E0 b0 B1 x9 x11 t7) hk_L_ticksOf rfl vs_L_311 kc_L_ticksOf dL_edits_635 (Nat.le_of_ble_eq_true rfl) ?_
                  refine gr_isub C dL_edits_638 ?_
                  refine gr_sub [1, 2, 3, 4, 5, 7, 8, 9, 10] rfl ?_
                  exact k639 _ (((Eq.trans (if_neg c597_7) (Eq.trans (if_neg c609_8) (if_pos c621_9)))).symm)
                · refine gr_ldc C (-1000003) v_i908 dL_edits_624 ?_
                  refine gr_goto C 639 dL_edits_626 (by decide) ?_
                  refine gr_sub [1, 2, 3, 4, 5, 7, 8, 9, 10] rfl ?_
                  exact k639 _ (((Eq.trans (if_neg c597_7) (Eq.trans (if_neg c609_8) (if_neg c621_9)))).symm)
            · refine gr_ldc C (-1000002) v_i617 dL_edits_600 ?_
              refine gr_goto C 639 dL_edits_602 (by decide) ?_
              refine gr_sub [1, 2, 3, 4, 5, 7, 8, 9, 10] rfl ?_
              exact k639 _ (((if_pos c597_7)).symm)
          refine gr_icmp_lt C 588 dL_edits_579 (by decide) (fun c579_5 => ?_) (fun c579_5 => ?_)
          · refine gr_iconst C 1 dL_edits_588 (by decide) ?_
            refine gr_goto C 593 dL_edits_589 (by decide) ?_
            refine gr_sub [1, 2, 6, 7, 8, 9, 10, 11, 12, 0] rfl ?_
            exact k593 _ ((if_pos (Or.inl c579_5)).symm)
          · refine gr_iload C 11 dL_edits_582 rfl ?_
            refine gr_iconst C 1 dL_edits_584 (by decide) ?_
            refine gr_icmp_eq C 592 dL_edits_585 (by decide) (fun c585_6 => ?_) (fun c585_6 => ?_)
            · refine gr_iconst C 0 dL_edits_592 (by decide) ?_
              refine gr_sub [1, 2, 6, 7, 8, 9, 10, 11, 12, 0] rfl ?_
              exact k593 _ ((if_neg (fun q0 => Or.elim q0 c579_5 (fun q1 => q1 c585_6))).symm)
            · refine gr_iconst C 1 dL_edits_588 (by decide) ?_
              refine gr_goto C 593 dL_edits_589 (by decide) ?_
              refine gr_sub [1, 2, 6, 7, 8, 9, 10, 11, 12, 0] rfl ?_
              exact k593 _ ((if_pos (Or.inr c585_6)).symm)
        have kf226 : ¬ ((¬ ((v_L_low (a3 >>> (11 &&& 31)) 2) = 0)) ∨ (r6 ≤ 0)) → GR p l e (rmC 12 B t.1) s m args below meth c 19 D K E0 B b0 (gr_Q below D K E0 b0 Q args s (rmC 12 B t.1)) t7 242 [(0, .ref o), (1, .ref a1), (2, .ref a2), (3, .int a3), (4, .int a4), (5, .int x2), (6, .int x5), (7, .int r6), (8, .int r7), (9, .int x9), (10, .int x11), (11, .int x13)] [] := by
          intro hc
          have h := h.2 hc
          refine gr_iload C 4 dL_edits_242 rfl ?_
          refine gr_iload C 7 dL_edits_244 rfl ?_
          obtain ⟨g39, h⟩ := h
          refine gr_callP C (y := yL_low) (as := [.int a4, .int r6]) (by exact ⟨Nat.le_of_ble_eq_true rfl, Nat.le_of_ble_eq_true rfl⟩) (fun B1 => c_L_low l D K E0 b0 B1 a4 r6 t7 g39) hk_L_low rfl vs_L_213 kc_L_low dL_edits_246 (Nat.le_of_ble_eq_true rfl) ?_
          refine gr_nameI (fun x40 ex40 => ?_)
          have h := h x40 ex40
          refine gr_istore C [(12, .int x40), (0, .ref o), (1, .ref a1), (2, .ref a2), (3, .int a3), (4, .int a4), (5, .int x2), (6, .int x5), (7, .int r6), (8, .int r7), (9, .int x9), (10, .int x11), (11, .int x13)] dL_edits_249 (by decide) rfl ?_
          refine gr_aloadn C 1 0 dL_edits_251 rfl rfl ?_
          refine gr_iload C 6 dL_edits_252 rfl ?_
          refine gr_iload C 7 dL_edits_254 rfl ?_
          refine gr_iload C 0 dL_edits_256 rfl ?_
          obtain ⟨B41, hB41, hR41, h⟩ := h
          refine gr_callW C (y := yL_written) (as := [.ref o, .int x2, .int x5, .int x40]) (by exact ⟨Nat.le_of_ble_eq_true rfl, Nat.le_of_ble_eq_true rfl⟩) B41 hB41 hR41 (c_L_written l D K E0 b0 B41 o x2 x5 x40 t7 _ h) hk_L_written rfl vs_L_294 kc_L_written dL_edits_258 (Nat.le_of_ble_eq_true rfl) (fun r41 t41 h z1 z2 => ?_)
          have h := h z1 z2
          refine gr_istore C [(13, .int r41), (12, .int x40), (0, .ref o), (1, .ref a1), (2, .ref a2), (3, .int a3), (4, .int a4), (5, .int x2), (6, .int x5), (7, .int r6), (8, .int r7), (9, .int x9), (10, .int x11), (11, .int x13)] dL_edits_261 (by decide) rfl ?_
          refine gr_iload C 6 dL_edits_263 rfl ?_
          refine gr_bipush C 9 dL_edits_265 (by decide) ?_
          refine gr_ishr C dL_edits_267 ?_
          refine gr_bipush C 7 dL_edits_268 (by decide) ?_
          obtain ⟨g42, h⟩ := h
          refine gr_callP C (y := yL_low) (as := [.int (a4 >>> (9 &&& 31)), .int 7]) (by exact ⟨Nat.le_of_ble_eq_true rfl, Nat.le_of_ble_eq_true rfl⟩) (fun B1 => c_L_low l D K E0 b0 B1 (a4 >>> (9 &&& 31)) 7 t41 g42) hk_L_low rfl vs_L_213 kc_L_low dL_edits_270 (Nat.le_of_ble_eq_true rfl) ?_
          refine gr_iconst C 1 dL_edits_273 (by decide) ?_
          refine gr_isub C dL_edits_274 ?_
          refine gr_nameI (fun x43 ex43 => ?_)
          have h := h x43 ex43
          refine gr_istore C [(14, .int x43), (13, .int r41), (12, .int x40), (0, .ref o), (1, .ref a1), (2, .ref a2), (3, .int a3), (4, .int a4), (5, .int x2), (6, .int x5), (7, .int r6), (8, .int r7), (9, .int x9), (10, .int x11), (11, .int x13)] dL_edits_275 (by decide) rfl ?_
          refine gr_aloadn C 3 0 dL_edits_277 rfl rfl ?_
          refine gr_iload C 8 dL_edits_278 rfl ?_
          refine gr_iload C 9 dL_edits_280 rfl ?_
          refine gr_iload C 2 dL_edits_282 rfl ?_
          refine gr_iload C 0 dL_edits_284 rfl ?_
          obtain ⟨B44, hB44, hR44, h⟩ := h
          refine gr_callW C (y := yL_setMark) (as := [.ref o, .int x2, .int x5, .int x40, .int x43]) (by exact ⟨Nat.le_of_ble_eq_true rfl, Nat.le_of_ble_eq_true rfl⟩) B44 hB44 hR44 (c_L_setMark l D K E0 b0 B44 o x2 x5 x40 x43 t41 _ h) hk_L_setMark rfl vs_L_303 kc_L_setMark dL_edits_286 (Nat.le_of_ble_eq_true rfl) (fun r44 t44 h z1 z2 => ?_)
          have h := h z1 z2
          refine gr_istore C [(15, .int r44), (14, .int x43), (13, .int r41), (12, .int x40), (0, .ref o), (1, .ref a1), (2, .ref a2), (3, .int a3), (4, .int a4), (5, .int x2), (6, .int x5), (7, .int r6), (8, .int r7), (9, .int x9), (10, .int x11), (11, .int x13)] dL_edits_289 (by decide) rfl ?_
          refine gr_iload C 8 dL_edits_291 rfl ?_
          refine gr_bipush C 12 dL_edits_293 (by decide) ?_
          refine gr_ishr C dL_edits_295 ?_
          refine gr_iconst C 2 dL_edits_296 (by decide) ?_
          obtain ⟨g45, h⟩ := h
          refine gr_callP C (y := yL_low) (as := [.int (a4 >>> (12 &&& 31)), .int 2]) (by exact ⟨Nat.le_of_ble_eq_true rfl, Nat.le_of_ble_eq_true rfl⟩) (fun B1 => c_L_low l D K E0 b0 B1 (a4 >>> (12 &&& 31)) 2 t44 g45) hk_L_low rfl vs_L_213 kc_L_low dL_edits_297 (Nat.le_of_ble_eq_true rfl) ?_
          have k308 : ∀ x46 : Int32, x46 = (if (v_L_low (a4 >>> (12 &&& 31)) 2) = 0 then 1 else 0) → GR p l e (rmC 12 B t.1) s m args below meth c 19 D K E0 B b0 (gr_Q below D K E0 b0 Q args s (rmC 12 B t.1)) t44 308 [(0, .ref o), (2, .ref a2), (5, .int x2), (6, .int x5), (7, .int r6), (11, .int x13), (12, .int x40), (13, .int r41), (14, .int x43), (15, .int r44)] [.int x46] := by
            intro x46 ex46
            have h := h x46 ex46
            refine gr_istore C [(16, .int x46), (0, .ref o), (2, .ref a2), (5, .int x2), (6, .int x5), (7, .int r6), (11, .int x13), (12, .int x40), (13, .int r41), (14, .int x43), (15, .int r44)] dL_edits_308 (by decide) rfl ?_
            refine gr_aloadn C 1 0 dL_edits_310 rfl rfl ?_
            refine gr_iload C 3 dL_edits_311 rfl ?_
            refine gr_iload C 4 dL_edits_313 rfl ?_
            refine gr_iload C 7 dL_edits_315 rfl ?_
            refine gr_iload C 0 dL_edits_317 rfl ?_
            obtain ⟨B47, hB47, hR47, h⟩ := h
            refine gr_callW C (y := yL_setTie) (as := [.ref o, .int x2, .int x5, .int x40, .int x46]) (by exact ⟨Nat.le_of_ble_eq_true rfl, Nat.le_of_ble_eq_true rfl⟩) B47 hB47 hR47 (c_L_setTie l D K E0 b0 B47 o x2 x5 x40 x46 t44 _ h) hk_L_setTie rfl vs_L_306 kc_L_setTie dL_edits_319 (Nat.le_of_ble_eq_true rfl) (fun r47 t47 h z1 z2 => ?_)
            have h := h z1 z2
            refine gr_istore C [(17, .int r47), (16, .int x46), (0, .ref o), (2, .ref a2), (5, .int x2), (6, .int x5), (7, .int r6), (11, .int x13), (12, .int x40), (13, .int r41), (14, .int x43), (15, .int r44)] dL_edits_322 (by decide) rfl ?_
            refine gr_iload C 11 dL_edits_324 rfl ?_
            refine gr_iconst C (-1) dL_edits_326 (by decide) ?_
            obtain ⟨J438, hJ438, h⟩ := h
            have k438 : ∀ x48 : Int32, ∀ t49 : LwS, J438 x48 t49 → GR p l e (rmC 12 B t.1) s m args below meth c 19 D K E0 B b0 (gr_Q below D K E0 b0 Q args s (rmC 12 B t.1)) t49 438 [(0, .ref o), (2, .ref a2), (5, .int x2), (6, .int x5), (7, .int r6), (11, .int x13), (12, .int x40), (13, .int r41)] [.int x48] := by
              intro x48 t49 h
              have h := hJ438 x48 t49 h
              refine gr_istore C [(18, .int x48), (0, .ref o), (2, .ref a2), (5, .int x2), (6, .int x5), (7, .int r6), (11, .int x13), (12, .int x40), (13, .int r41)] dL_edits_438 (by decide) rfl ?_
              refine gr_iload C 0 dL_edits_440 rfl ?_
              obtain ⟨J561, hJ561, h⟩ := h
              have k561 : ∀ x50 : Int32, ∀ t51 : LwS, J561 x50 t51 → GR p l e (rmC 12 B t.1) s m args below meth c 19 D K E0 B b0 (gr_Q below D K E0 b0 Q args s (rmC 12 B t.1)) t51 561 [] [.int x50] := by
                intro x50 t51 h
                have h := hJ561 x50 t51 h
                obtain ⟨g52, h⟩ := h
                exact gr_zret C E g52 dL_edits_561 h
              obtain ⟨J560, hJ560, h⟩ := h
              have k560 : ∀ t53 : LwS, J560 t53 → GR p l e (rmC 12 B t.1) s m args below meth c 19 D K E0 B b0 (gr_Q below D K E0 b0 Q args s (rmC 12 B t.1)) t53 560 [] [] := by
                intro t53 h
                have h := hJ560 t53 h
                refine gr_iconst C 0 dL_edits_560 (by decide) ?_
                exact k561 0 t53 h
              refine gr_if_eq C 560 dL_edits_442 (by decide) (fun c442_20 => ?_) (fun c442_20 => ?_)
              · have h := h.1 c442_20
                refine gr_sub [] rfl ?_
                exact k560 t49 h
              · have h := h.2 c442_20
                refine gr_aloadn C 1 0 dL_edits_445 rfl rfl ?_
                refine gr_iload C 3 dL_edits_446 rfl ?_
                refine gr_iload C 4 dL_edits_448 rfl ?_
                refine gr_iload C 7 dL_edits_450 rfl ?_
                refine gr_iload C 6 dL_edits_452 rfl ?_
                obtain ⟨B54, hB54, hR54, h⟩ := h
                refine gr_callW C (y := yL_setPitch) (as := [.ref o, .int x2, .int x5, .int x40, .int x13]) (by exact ⟨Nat.le_of_ble_eq_true rfl, Nat.le_of_ble_eq_true rfl⟩) B54 hB54 hR54 (c_L_setPitch l D K E0 b0 B54 o x2 x5 x40 x13 t49 _ h) hk_L_setPitch rfl vs_L_309 kc_L_setPitch dL_edits_454 (Nat.le_of_ble_eq_true rfl) (fun r54 t54 h z1 z2 => ?_)
                have h := h z1 z2
                refine gr_iload C 8 dL_edits_457 rfl ?_
                refine gr_iconst C (-1) dL_edits_459 (by decide) ?_
                obtain ⟨g56, h⟩ := h
                have k474 : ∀ x55 : Int32, x55 = (if r41 = (-1) then (0 : Int32) else (r41 - (rG t54.2 a2 (Int32.toNatClampNeg x2)))) → GR p l e (rmC 12 B t.1) s m args below meth c 19 D K E0 B b0 (gr_Q below D K E0 b0 Q args s (rmC 12 B t.1)) t54 474 [(0, .ref o), (2, .ref a2), (5, .int x2), (6, .int x5), (7, .int r6), (11, .int x13), (12, .int x40)] [.int x55, .int r54] := by
                  intro x55 ex55
                  have h := h x55 ex55
                  refine gr_icmp_ne C 560 dL_edits_474 (by decide) (fun c474_22 => ?_) (fun c474_22 => ?_)
                  · have h := h.2 c474_22
                    refine gr_sub [] rfl ?_
                    exact k560 t54 h
                  · have h := h.1 c474_22
                    refine gr_aloadn C 0 0 dL_edits_477 rfl rfl ?_
                    refine gr_iload C 2 dL_edits_478 rfl ?_
                    refine gr_iload C 3 dL_edits_480 rfl ?_
                    refine gr_iload C 6 dL_edits_482 rfl ?_
                    obtain ⟨B57, hB57, hR57, h⟩ := h
                    refine gr_callW C (y := yL_written) (as := [.ref o, .int x2, .int x5, .int x40]) (by exact ⟨Nat.le_of_ble_eq_true rfl, Nat.le_of_ble_eq_true rfl⟩) B57 hB57 hR57 (c_L_written l D K E0 b0 B57 o x2 x5 x40 t54 _ h) hk_L_written rfl vs_L_294 kc_L_written dL_edits_484 (Nat.le_of_ble_eq_true rfl) (fun r57 t57 h z1 z2 => ?_)
                    have h := h z1 z2
                    refine gr_iload C 5 dL_edits_487 rfl ?_
                    obtain ⟨g59, h⟩ := h
                    have k503 : ∀ x58 : Int32, x58 = (if x13 = 0 then ((-1) : Int32) else (x13 + (rG t57.2 a2 (Int32.toNatClampNeg x2)))) → GR p l e (rmC 12 B t.1) s m args below meth c 19 D K E0 B b0 (gr_Q below D K E0 b0 Q args s (rmC 12 B t.1)) t57 503 [(0, .ref o), (5, .int x2), (6, .int x5), (7, .int r6), (12, .int x40)] [.int x58, .int r57] := by
                      intro x58 ex58
                      have h := h x58 ex58
                      refine gr_icmp_ne C 560 dL_edits_503 (by decide) (fun c503_24 => ?_) (fun c503_24 => ?_)
                      · have h := h.2 c503_24
                        refine gr_sub [] rfl ?_
                        exact k560 t57 h
                      · have h := h.1 c503_24
                        refine gr_aloadn C 0 0 dL_edits_506 rfl rfl ?_
                        refine gr_iload C 1 dL_edits_507 rfl ?_
                        refine gr_iload C 2 dL_edits_509 rfl ?_
                        refine gr_iload C 4 dL_edits_511 rfl ?_
                        refine gr_sipush C 128 dL_edits_513 (by decide) ?_
                        obtain ⟨B60, hB60, hR60, h⟩ := h
                        refine gr_callW C (y := yL_setPitch) (as := [.ref o, .int x2, .int x5, .int x40, .int 128]) (by exact ⟨Nat.le_of_ble_eq_true rfl, Nat.le_of_ble_eq_true rfl⟩) B60 hB60 hR60 (c_L_setPitch l D K E0 b0 B60 o x2 x5 x40 128 t57 _ h) hk_L_setPitch rfl vs_L_309 kc_L_setPitch dL_edits_516 (Nat.le_of_ble_eq_true rfl) (fun r60 t60 h z1 z2 => ?_)
                        have h := h z1 z2
                        refine gr_ldc C (-1000002) v_i617 dL_edits_519 ?_
                        refine gr_icmp_ne C 560 dL_edits_521 (by decide) (fun c521_25 => ?_) (fun c521_25 => ?_)
                        · have h := h.2 c521_25
                          refine gr_sub [] rfl ?_
                          exact k560 t60 h
                        · have h := h.1 c521_25
                          refine gr_aloadn C 0 0 dL_edits_524 rfl rfl ?_
                          refine gr_iload C 1 dL_edits_525 rfl ?_
                          refine gr_iload C 2 dL_edits_527 rfl ?_
                          refine gr_iload C 3 dL_edits_529 rfl ?_
                          refine gr_iconst C 1 dL_edits_531 (by decide) ?_
                          obtain ⟨B61, hB61, hR61, h⟩ := h
                          refine gr_callW C (y := yL_setPitch) (as := [.ref o, .int x2, .int x5, .int r6, .int 1]) (by exact ⟨Nat.le_of_ble_eq_true rfl, Nat.le_of_ble_eq_true rfl⟩) B61 hB61 hR61 (c_L_setPitch l D K E0 b0 B61 o x2 x5 r6 1 t60 _ h) hk_L_setPitch rfl vs_L_309 kc_L_setPitch dL_edits_532 (Nat.le_of_ble_eq_true rfl) (fun r61 t61 h z1 z2 => ?_)
                          have h := h z1 z2
                          refine gr_ldc C (-1000001) v_i533 dL_edits_535 ?_
                          refine gr_icmp_ne C 560 dL_edits_537 (by decide) (fun c537_26 => ?_) (fun c537_26 => ?_)
                          · have h := h.2 c537_26
                            refine gr_sub [] rfl ?_
                            exact k560 t61 h
                          · have h := h.1 c537_26
                            refine gr_aloadn C 0 0 dL_edits_540 rfl rfl ?_
                            refine gr_iload C 1 dL_edits_541 rfl ?_
                            refine gr_iload C 2 dL_edits_543 rfl ?_
                            refine gr_iload C 3 dL_edits_545 rfl ?_
                            refine gr_iconst C 1 dL_edits_547 (by decide) ?_
                            obtain ⟨B62, hB62, hR62, h⟩ := h
                            refine gr_callW C (y := yL_setTie) (as := [.ref o, .int x2, .int x5, .int r6, .int 1]) (by exact ⟨Nat.le_of_ble_eq_true rfl, Nat.le_of_ble_eq_true rfl⟩) B62 hB62 hR62 (c_L_setTie l D K E0 b0 B62 o x2 x5 r6 1 t61 _ h) hk_L_setTie rfl vs_L_306 kc_L_setTie dL_edits_548 (Nat.le_of_ble_eq_true rfl) (fun r62 t62 h z1 z2 => ?_)
                            have h := h z1 z2
                            refine gr_ldc C (-1000001) v_i533 dL_edits_551 ?_
                            refine gr_icmp_ne C 560 dL_edits_553 (by decide) (fun c553_27 => ?_) (fun c553_27 => ?_)
                            · have h := h.2 c553_27
                              refine gr_sub [] rfl ?_
                              exact k560 t62 h
                            · have h := h.1 c553_27
                              refine gr_iconst C 1 dL_edits_556 (by decide) ?_
                              refine gr_goto C 561 dL_edits_557 (by decide) ?_
                              refine gr_sub [] rfl ?_
                              exact k561 1 t62 h
                    refine gr_if_ne C 496 dL_edits_489 (by decide) (fun c489_23 => ?_) (fun c489_23 => ?_)
                    · refine gr_iload C 5 dL_edits_496 rfl ?_
                      refine gr_aloadn C 1 2 dL_edits_498 rfl rfl ?_
                      refine gr_iload C 2 dL_edits_499 rfl ?_
                      refine gr_iald C (g59 c489_23) dL_edits_501 ?_
                      refine gr_iadd C dL_edits_502 ?_
                      refine gr_sub [0, 2, 3, 4, 6] rfl ?_
                      exact k503 _ ((if_neg c489_23).symm)
                    · refine gr_iconst C (-1) dL_edits_492 (by decide) ?_
                      refine gr_goto C 503 dL_edits_493 (by decide) ?_
                      refine gr_sub [0, 2, 3, 4, 6] rfl ?_
                      exact k503 _ ((if_pos c489_23).symm)
                refine gr_icmp_ne C 467 dL_edits_460 (by decide) (fun c460_21 => ?_) (fun c460_21 => ?_)
                · refine gr_iload C 8 dL_edits_467 rfl ?_
                  refine gr_aloadn C 2 2 dL_edits_469 rfl rfl ?_
                  refine gr_iload C 3 dL_edits_470 rfl ?_
                  refine gr_iald C (g56 c460_21) dL_edits_472 ?_
                  refine gr_isub C dL_edits_473 ?_
                  refine gr_sub [1, 2, 3, 4, 5, 6, 7] rfl ?_
                  exact k474 _ ((if_neg c460_21).symm)
                · refine gr_iconst C 0 dL_edits_463 (by decide) ?_
                  refine gr_goto C 474 dL_edits_464 (by decide) ?_
                  refine gr_sub [1, 2, 3, 4, 5, 6, 7] rfl ?_
                  exact k474 _ ((if_pos c460_21).symm)
            obtain ⟨J437, hJ437, h⟩ := h
            have k437 : ∀ t63 : LwS, J437 t63 → GR p l e (rmC 12 B t.1) s m args below meth c 19 D K E0 B b0 (gr_Q below D K E0 b0 Q args s (rmC 12 B t.1)) t63 437 [(0, .ref o), (2, .ref a2), (5, .int x2), (6, .int x5), (7, .int r6), (11, .int x13), (12, .int x40), (13, .int r41)] [] := by
              intro t63 h
              have h := hJ437 t63 h
              refine gr_iconst C 0 dL_edits_437 (by decide) ?_
              exact k438 0 t63 h
            have kt308 : ((r44 < (-1)) ∨ (6 ≤ r44)) → GR p l e (rmC 12 B t.1) s m args below meth c 19 D K E0 B b0 (gr_Q below D K E0 b0 Q args s (rmC 12 B t.1)) t47 437 [(17, .int r47), (16, .int x46), (0, .ref o), (2, .ref a2), (5, .int x2), (6, .int x5), (7, .int r6), (11, .int x13), (12, .int x40), (13, .int r41), (14, .int x43), (15, .int r44)] [] := by
              intro hc
              have h := h.1 hc
              refine gr_sub [2, 3, 4, 5, 6, 7, 8, 9] rfl ?_
              exact k437 t47 h
            have kf308 : ¬ ((r44 < (-1)) ∨ (6 ≤ r44)) → GR p l e (rmC 12 B t.1) s m args below meth c 19 D K E0 B b0 (gr_Q below D K E0 b0 Q args s (rmC 12 B t.1)) t47 337 [(17, .int r47), (16, .int x46), (0, .ref o), (2, .ref a2), (5, .int x2), (6, .int x5), (7, .int r6), (11, .int x13), (12, .int x40), (13, .int r41), (14, .int x43), (15, .int r44)] [] := by
              intro hc
              have h := h.2 hc
              refine gr_aloadn C 2 0 dL_edits_337 rfl rfl ?_
              refine gr_iload C 4 dL_edits_338 rfl ?_
              refine gr_iload C 5 dL_edits_340 rfl ?_
              refine gr_iload C 8 dL_edits_342 rfl ?_
              refine gr_iload C 10 dL_edits_344 rfl ?_
              obtain ⟨B64, hB64, hR64, h⟩ := h
              refine gr_callW C (y := yL_setMark) (as := [.ref o, .int x2, .int x5, .int x40, .int x43]) (by exact ⟨Nat.le_of_ble_eq_true rfl, Nat.le_of_ble_eq_true rfl⟩) B64 hB64 hR64 (c_L_setMark l D K E0 b0 B64 o x2 x5 x40 x43 t47 _ h) hk_L_setMark rfl vs_L_303 kc_L_setMark dL_edits_346 (Nat.le_of_ble_eq_true rfl) (fun r64 t64 h z1 z2 => ?_)
              have h := h z1 z2
              refine gr_iload C 10 dL_edits_349 rfl ?_
              refine gr_icmp_ne C 437 dL_edits_351 (by decide) (fun c351_30 => ?_) (fun c351_30 => ?_)
              · have h := h.2 c351_30
                refine gr_sub [2, 3, 4, 5, 6, 7, 8, 9] rfl ?_
                exact k437 t64 h
              · have h := h.1 c351_30
                refine gr_aloadn C 2 0 dL_edits_354 rfl rfl ?_
                refine gr_iload C 4 dL_edits_355 rfl ?_
                refine gr_iload C 5 dL_edits_357 rfl ?_
                refine gr_iload C 8 dL_edits_359 rfl ?_
                refine gr_bipush C 6 dL_edits_361 (by decide) ?_
                obtain ⟨B65, hB65, hR65, h⟩ := h
                refine gr_callW C (y := yL_setMark) (as := [.ref o, .int x2, .int x5, .int x40, .int 6]) (by exact ⟨Nat.le_of_ble_eq_true rfl, Nat.le_of_ble_eq_true rfl⟩) B65 hB65 hR65 (c_L_setMark l D K E0 b0 B65 o x2 x5 x40 6 t64 _ h) hk_L_setMark rfl vs_L_303 kc_L_setMark dL_edits_363 (Nat.le_of_ble_eq_true rfl) (fun r65 t65 h z1 z2 => ?_)
                have h := h z1 z2
                refine gr_ldc C (-1000002) v_i617 dL_edits_366 ?_
                refine gr_icmp_ne C 437 dL_edits_368 (by decide) (fun c368_31 => ?_) (fun c368_31 => ?_)
                · have h := h.2 c368_31
                  refine gr_sub [2, 3, 4, 5, 6, 7, 8, 9] rfl ?_
                  exact k437 t65 h
                · have h := h.1 c368_31
                  refine gr_aloadn C 2 0 dL_edits_371 rfl rfl ?_
                  refine gr_iload C 4 dL_edits_372 rfl ?_
                  refine gr_iload C 5 dL_edits_374 rfl ?_
                  refine gr_iload C 6 dL_edits_376 rfl ?_
                  refine gr_iconst C 0 dL_edits_378 (by decide) ?_
                  obtain ⟨B66, hB66, hR66, h⟩ := h
                  refine gr_callW C (y := yL_setMark) (as := [.ref o, .int x2, .int x5, .int r6, .int 0]) (by exact ⟨Nat.le_of_ble_eq_true rfl, Nat.le_of_ble_eq_true rfl⟩) B66 hB66 hR66 (c_L_setMark l D K E0 b0 B66 o x2 x5 r6 0 t65 _ h) hk_L_setMark rfl vs_L_303 kc_L_setMark dL_edits_379 (Nat.le_of_ble_eq_true rfl) (fun r66 t66 h z1 z2 => ?_)
                  have h := h z1 z2
                  refine gr_ldc C (-1000001) v_i533 dL_edits_382 ?_
                  refine gr_icmp_ne C 437 dL_edits_384 (by decide) (fun c384_32 => ?_) (fun c384_32 => ?_)
                  · have h := h.2 c384_32
                    refine gr_sub [2, 3, 4, 5, 6, 7, 8, 9] rfl ?_
                    exact k437 t66 h
                  · have h := h.1 c384_32
                    refine gr_iload C 9 dL_edits_387 rfl ?_
                    refine gr_iconst C (-1) dL_edits_389 (by decide) ?_
                    obtain ⟨J433, hJ433, h⟩ := h
                    have k433 : ∀ t67 : LwS, J433 t67 → GR p l e (rmC 12 B t.1) s m args below meth c 19 D K E0 B b0 (gr_Q below D K E0 b0 Q args s (rmC 12 B t.1)) t67 433 [(0, .ref o), (2, .ref a2), (5, .int x2), (6, .int x5), (7, .int r6), (11, .int x13), (12, .int x40), (13, .int r41)] [] := by
                      intro t67 h
                      have h := hJ433 t67 h
                      refine gr_iconst C 1 dL_edits_433 (by decide) ?_
                      refine gr_goto C 438 dL_edits_434 (by decide) ?_
                      exact k438 1 t67 h
                    refine gr_icmp_ne C 403 dL_edits_390 (by decide) (fun c390_33 => ?_) (fun c390_33 => ?_)
                    · have h := h.2 c390_33
                      refine gr_iload C 0 dL_edits_403 rfl ?_
                      refine gr_if_lt C 437 dL_edits_405 (by decide) (fun c405_35 => ?_) (fun c405_35 => ?_)
                      · have h := h.1 c405_35
                        refine gr_sub [2, 3, 4, 5, 6, 7, 8, 9] rfl ?_
                        exact k437 t66 h
                      · have h := h.2 c405_35
                        refine gr_aloadn C 2 0 dL_edits_408 rfl rfl ?_
                        refine gr_iload C 4 dL_edits_409 rfl ?_
                        refine gr_iload C 5 dL_edits_411 rfl ?_
                        refine gr_iload C 8 dL_edits_413 rfl ?_
                        refine gr_iload C 1 dL_edits_415 rfl ?_
                        obtain ⟨B68, hB68, hR68, h⟩ := h
                        refine gr_callW C (y := yL_setTie) (as := [.ref o, .int x2, .int x5, .int x40, .int x46]) (by exact ⟨Nat.le_of_ble_eq_true rfl, Nat.le_of_ble_eq_true rfl⟩) B68 hB68 hR68 (c_L_setTie l D K E0 b0 B68 o x2 x5 x40 x46 t66 _ h) hk_L_setTie rfl vs_L_306 kc_L_setTie dL_edits_417 (Nat.le_of_ble_eq_true rfl) (fun r68 t68 h z1 z2 => ?_)
                        have h := h z1 z2
                        refine gr_iload C 1 dL_edits_420 rfl ?_
                        have k430 : ∀ x69 : Int32, x69 = (if ¬ (x46 = 0) then 1 else 0) → GR p l e (rmC 12 B t.1) s m args below meth c 19 D K E0 B b0 (gr_Q below D K E0 b0 Q args s (rmC 12 B t.1)) t68 430 [(0, .ref o), (2, .ref a2), (5, .int x2), (6, .int x5), (7, .int r6), (11, .int x13), (12, .int x40), (13, .int r41)] [.int x69, .int r68] := by
                          intro x69 ex69
                          have h := h x69 ex69
                          refine gr_icmp_ne C 437 dL_edits_430 (by decide) (fun c430_37 => ?_) (fun c430_37 => ?_)
                          · have h := h.2 c430_37
                            exact k437 t68 h
                          · have h := h.1 c430_37
                            exact k433 t68 h
                        refine gr_if_eq C 429 dL_edits_422 (by decide) (fun c422_36 => ?_) (fun c422_36 => ?_)
                        · refine gr_iconst C 0 dL_edits_429 (by decide) ?_
                          refine gr_sub [2, 3, 4, 5, 6, 7, 8, 9] rfl ?_
                          exact k430 _ ((if_neg (fun q0 => q0 c422_36)).symm)
                        · refine gr_iconst C 1 dL_edits_425 (by decide) ?_
                          refine gr_goto C 430 dL_edits_426 (by decide) ?_
                          refine gr_sub [2, 3, 4, 5, 6, 7, 8, 9] rfl ?_
                          exact k430 _ ((if_pos c422_36).symm)
                    · have h := h.1 c390_33
                      refine gr_iload C 0 dL_edits_393 rfl ?_
                      refine gr_ldc C (-1000003) v_i908 dL_edits_395 ?_
                      refine gr_icmp_ne C 437 dL_edits_397 (by decide) (fun c397_34 => ?_) (fun c397_34 => ?_)
                      · have h := h.2 c397_34
                        refine gr_sub [2, 3, 4, 5, 6, 7, 8, 9] rfl ?_
                        exact k437 t66 h
                      · have h := h.1 c397_34
                        refine gr_goto C 433 dL_edits_400 (by decide) ?_
                        refine gr_sub [2, 3, 4, 5, 6, 7, 8, 9] rfl ?_
                        exact k433 t66 h
            refine gr_icmp_lt C 437 dL_edits_327 (by decide) (fun c327_28 => ?_) (fun c327_28 => ?_)
            · exact kt308 (Or.inl c327_28)
            · refine gr_iload C 11 dL_edits_330 rfl ?_
              refine gr_bipush C 6 dL_edits_332 (by decide) ?_
              refine gr_icmp_ge C 437 dL_edits_334 (by decide) (fun c334_29 => ?_) (fun c334_29 => ?_)
              · exact kt308 (Or.inr c334_29)
              · exact kf308 (fun q0 => Or.elim q0 c327_28 c334_29)
          refine gr_if_ne C 307 dL_edits_300 (by decide) (fun c300_19 => ?_) (fun c300_19 => ?_)
          · refine gr_iconst C 0 dL_edits_307 (by decide) ?_
            refine gr_sub [4, 6, 9, 10, 11, 15, 3, 2, 1, 0] rfl ?_
            exact k308 _ ((if_neg c300_19).symm)
          · refine gr_iconst C 1 dL_edits_303 (by decide) ?_
            refine gr_goto C 308 dL_edits_304 (by decide) ?_
            refine gr_sub [4, 6, 9, 10, 11, 15, 3, 2, 1, 0] rfl ?_
            exact k308 _ ((if_pos c300_19).symm)
        refine gr_if_ne C 562 dL_edits_234 (by decide) (fun c234_3 => ?_) (fun c234_3 => ?_)
        · exact kt226 (Or.inl c234_3)
        · refine gr_iload C 7 dL_edits_237 rfl ?_
          refine gr_if_le C 562 dL_edits_239 (by decide) (fun c239_4 => ?_) (fun c239_4 => ?_)
          · exact kt226 (Or.inr c239_4)
          · exact kf226 (fun q0 => Or.elim q0 (fun r => r c234_3) c239_4)
      refine gr_if_ne C 226 dL_edits_125 (by decide) (fun c125_38 => ?_) (fun c125_38 => ?_)
      · have h := h.2 c125_38
        refine gr_sub [1, 2, 3, 4, 5, 6, 7, 8, 9, 10, 11, 0] rfl ?_
        exact k226 h
      · have h := h.1 c125_38
        refine gr_iload C 8 dL_edits_128 rfl ?_
        refine gr_if_le C 226 dL_edits_130 (by decide) (fun c130_39 => ?_) (fun c130_39 => ?_)
        · have h := h.1 c130_39
          refine gr_sub [1, 2, 3, 4, 5, 6, 7, 8, 9, 10, 11, 0] rfl ?_
          exact k226 h
        · have h := h.2 c130_39
          refine gr_iload C 5 dL_edits_133 rfl ?_
          refine gr_iload C 8 dL_edits_135 rfl ?_
          obtain ⟨g70, h⟩ := h
          refine gr_callP C (y := yL_low) (as := [.int a4, .int r6]) (by exact ⟨Nat.le_of_ble_eq_true rfl, Nat.le_of_ble_eq_true rfl⟩) (fun B1 => c_L_low l D K E0 b0 B1 a4 r6 t7 g70) hk_L_low rfl vs_L_213 kc_L_low dL_edits_137 (Nat.le_of_ble_eq_true rfl) ?_
          refine gr_nameI (fun x71 ex71 => ?_)
          have h := h x71 ex71
          refine gr_istore C [(12, .int x71), (11, .int x13), (0, .ref o), (1, .ref a1), (2, .ref a2), (3, .int a3), (4, .int a4), (5, .int x2), (6, .int x5), (7, .int r6), (8, .int r7), (9, .int x9), (10, .int x11)] dL_edits_140 (by decide) rfl ?_
          refine gr_aloadn C 2 0 dL_edits_142 rfl rfl ?_
          refine gr_iload C 7 dL_edits_143 rfl ?_
          refine gr_iload C 8 dL_edits_145 rfl ?_
          refine gr_iload C 0 dL_edits_147 rfl ?_
          obtain ⟨B72, hB72, hR72, h⟩ := h
          refine gr_callW C (y := yL_remove) (as := [.ref o, .int x2, .int x5, .int x71]) (by exact ⟨Nat.le_of_ble_eq_true rfl, Nat.le_of_ble_eq_true rfl⟩) B72 hB72 hR72 (c_L_remove l D K E0 b0 B72 o x2 x5 x71 t7 _ h) hk_L_remove rfl vs_L_301 kc_L_remove dL_edits_149 (Nat.le_of_ble_eq_true rfl) (fun r72 t72 h z1 z2 => ?_)
          have h := h z1 z2
          refine gr_istore C [(13, .int r72), (12, .int x71), (11, .int x13), (0, .ref o), (1, .ref a1), (2, .ref a2), (3, .int a3), (4, .int a4), (5, .int x2), (6, .int x5), (7, .int r6), (8, .int r7), (9, .int x9), (10, .int x11)] dL_edits_152 (by decide) rfl ?_
          refine gr_iload C 0 dL_edits_154 rfl ?_
          obtain ⟨J225, hJ225, h⟩ := h
          have k225 : ∀ x73 : Int32, ∀ t74 : LwS, J225 x73 t74 → GR p l e (rmC 12 B t.1) s m args below meth c 19 D K E0 B b0 (gr_Q below D K E0 b0 Q args s (rmC 12 B t.1)) t74 225 [] [.int x73] := by
            intro x73 t74 h
            have h := hJ225 x73 t74 h
            obtain ⟨g75, h⟩ := h
            exact gr_zret C E g75 dL_edits_225 h
          obtain ⟨J224, hJ224, h⟩ := h
          have k224 : ∀ t76 : LwS, J224 t76 → GR p l e (rmC 12 B t.1) s m args below meth c 19 D K E0 B b0 (gr_Q below D K E0 b0 Q args s (rmC 12 B t.1)) t76 224 [] [] := by
            intro t76 h
            have h := hJ224 t76 h
            refine gr_iconst C 0 dL_edits_224 (by decide) ?_
            exact k225 0 t76 h
          refine gr_if_le C 224 dL_edits_156 (by decide) (fun c156_40 => ?_) (fun c156_40 => ?_)
          · have h := h.1 c156_40
            refine gr_sub [] rfl ?_
            exact k224 t72 h
          · have h := h.2 c156_40
            refine gr_aloadn C 3 0 dL_edits_159 rfl rfl ?_
            refine gr_iload C 8 dL_edits_160 rfl ?_
            refine gr_iload C 9 dL_edits_162 rfl ?_
            obtain ⟨B77, hB77, hR77, h⟩ := h
            refine gr_callW C (y := yL_events) (as := [.ref o, .int x2, .int x5]) (by exact ⟨Nat.le_of_ble_eq_true rfl, Nat.le_of_ble_eq_true rfl⟩) B77 hB77 hR77 (c_L_events l D K E0 b0 B77 o x2 x5 t72 _ h) hk_L_events rfl vs_L_236 kc_L_events dL_edits_164 (Nat.le_of_ble_eq_true rfl) (fun r77 t77 h z1 z2 => ?_)
            have h := h z1 z2
            refine gr_iload C 10 dL_edits_167 rfl ?_
            refine gr_iconst C 1 dL_edits_169 (by decide) ?_
            refine gr_isub C dL_edits_170 ?_
            refine gr_icmp_ne C 224 dL_edits_171 (by decide) (fun c171_41 => ?_) (fun c171_41 => ?_)
            · have h := h.2 c171_41
              refine gr_sub [] rfl ?_
              exact k224 t77 h
            · have h := h.1 c171_41
              refine gr_aloadn C 3 0 dL_edits_174 rfl rfl ?_
              refine gr_iload C 8 dL_edits_175 rfl ?_
              refine gr_iload C 9 dL_edits_177 rfl ?_
              obtain ⟨B78, hB78, hR78, h⟩ := h
              refine gr_callW C (y := yL_left) (as := [.ref o, .int x2, .int x5]) (by exact ⟨Nat.le_of_ble_eq_true rfl, Nat.le_of_ble_eq_true rfl⟩) B78 hB78 hR78 (c_L_left l D K E0 b0 B78 o x2 x5 t77 _ h) hk_L_left rfl vs_L_289 kc_L_left dL_edits_179 (Nat.le_of_ble_eq_true rfl) (fun r78 t78 h z1 z2 => ?_)
              have h := h z1 z2
              refine gr_iload C 11 dL_edits_182 rfl ?_
              refine gr_iload C 0 dL_edits_184 rfl ?_
              refine gr_iadd C dL_edits_186 ?_
              refine gr_icmp_ne C 224 dL_edits_187 (by decide) (fun c187_42 => ?_) (fun c187_42 => ?_)
              · have h := h.2 c187_42
                refine gr_sub [] rfl ?_
                exact k224 t78 h
              · have h := h.1 c187_42
                refine gr_aloadn C 3 0 dL_edits_190 rfl rfl ?_
                refine gr_iconst C 4 dL_edits_191 (by decide) ?_
                refine gr_iload C 9 dL_edits_192 rfl ?_
                refine gr_iconst C 0 dL_edits_194 (by decide) ?_
                obtain ⟨B79, hB79, hR79, h⟩ := h
                refine gr_callW C (y := yL_remove) (as := [.ref o, .int 4, .int x5, .int 0]) (by exact ⟨Nat.le_of_ble_eq_true rfl, Nat.le_of_ble_eq_true rfl⟩) B79 hB79 hR79 (c_L_remove l D K E0 b0 B79 o 4 x5 0 t78 _ h) hk_L_remove rfl vs_L_301 kc_L_remove dL_edits_195 (Nat.le_of_ble_eq_true rfl) (fun r79 t79 h z1 z2 => ?_)
                have h := h z1 z2
                refine gr_ldc C (-1000002) v_i617 dL_edits_198 ?_
                refine gr_icmp_ne C 224 dL_edits_200 (by decide) (fun c200_43 => ?_) (fun c200_43 => ?_)
                · have h := h.2 c200_43
                  refine gr_sub [] rfl ?_
                  exact k224 t79 h
                · have h := h.1 c200_43
                  refine gr_aloadn C 3 0 dL_edits_203 rfl rfl ?_
                  refine gr_iload C 8 dL_edits_204 rfl ?_
                  refine gr_iload C 9 dL_edits_206 rfl ?_
                  refine gr_iload C 10 dL_edits_208 rfl ?_
                  refine gr_iconst C 1 dL_edits_210 (by decide) ?_
                  refine gr_isub C dL_edits_211 ?_
                  obtain ⟨B80, hB80, hR80, h⟩ := h
                  refine gr_callW C (y := yL_remove) (as := [.ref o, .int x2, .int x5, .int (r6 - 1)]) (by exact ⟨Nat.le_of_ble_eq_true rfl, Nat.le_of_ble_eq_true rfl⟩) B80 hB80 hR80 (c_L_remove l D K E0 b0 B80 o x2 x5 (r6 - 1) t79 _ h) hk_L_remove rfl vs_L_301 kc_L_remove dL_edits_212 (Nat.le_of_ble_eq_true rfl) (fun r80 t80 h z1 z2 => ?_)
                  have h := h z1 z2
                  refine gr_ldc C (-1000001) v_i533 dL_edits_215 ?_
                  refine gr_icmp_ne C 224 dL_edits_217 (by decide) (fun c217_44 => ?_) (fun c217_44 => ?_)
                  · have h := h.2 c217_44
                    refine gr_sub [] rfl ?_
                    exact k224 t80 h
                  · have h := h.1 c217_44
                    refine gr_iconst C 1 dL_edits_220 (by decide) ?_
                    refine gr_goto C 225 dL_edits_221 (by decide) ?_
                    refine gr_sub [] rfl ?_
                    exact k225 1 t80 h
    · have h := h.1 c94_2
      refine gr_aloadn C 1 0 dL_edits_97 rfl rfl ?_
      refine gr_aloadn C 3 2 dL_edits_98 rfl rfl ?_
      refine gr_iload C 6 dL_edits_99 rfl ?_
      refine gr_iload C 7 dL_edits_101 rfl ?_
      refine gr_iconst C 1 dL_edits_103 (by decide) ?_
      refine gr_iload C 5 dL_edits_104 rfl ?_
      refine gr_iconst C 3 dL_edits_106 (by decide) ?_
      obtain ⟨g16, h⟩ := h
      refine gr_callP C (y := yL_low) (as := [.int a4, .int 3]) (by exact ⟨Nat.le_of_ble_eq_true rfl, Nat.le_of_ble_eq_true rfl⟩) (fun B1 => c_L_low l D K E0 b0 B1 a4 3 t7 g16) hk_L_low rfl vs_L_213 kc_L_low dL_edits_107 (Nat.le_of_ble_eq_true rfl) ?_
      refine gr_iadd C dL_edits_110 ?_
      refine gr_iload C 0 dL_edits_111 rfl ?_
      obtain ⟨B17, hB17, hR17, h⟩ := h
      refine gr_callS C (y := yL_fills) (as := [.ref o, .ref a2, .int x2, .int x5, .int ((1 : Int32) + (v_L_low a4 3)), .int x13]) (by exact ⟨Nat.le_of_ble_eq_true rfl, Nat.le_of_ble_eq_true rfl⟩) B17 hB17 hR17 (c_L_fills l D K E0 b0 B17 o a2 x2 x5 ((1 : Int32) + (v_L_low a4 3)) x13 t7 _ h) hk_L_fills rfl vs_L_297 kc_L_fills dL_edits_113 (Nat.le_of_ble_eq_true rfl) (fun r17 t17 h z1 z2 => ?_)
      have h := h z1 z2
      obtain ⟨g18, h⟩ := h
      exact gr_zret C E g18 dL_edits_116 h
  refine gr_if_ne C 72 dL_edits_65 (by decide) (fun c65_1 => ?_) (fun c65_1 => ?_)
  · refine gr_bipush C 40 dL_edits_72 (by decide) ?_
    refine gr_iload C 10 dL_edits_74 rfl ?_
    refine gr_bipush C 7 dL_edits_76 (by decide) ?_
    refine gr_ishr C dL_edits_78 ?_
    refine gr_iconst C 3 dL_edits_79 (by decide) ?_
    refine gr_callP C (y := yL_low) (as := [.int (a4 >>> (7 &&& 31)), .int 3]) (by exact ⟨Nat.le_of_ble_eq_true rfl, Nat.le_of_ble_eq_true rfl⟩) (fun B1 => c_L_low l D K E0 b0 B1 (a4 >>> (7 &&& 31)) 3 t7 (g14 c65_1)) hk_L_low rfl vs_L_213 kc_L_low dL_edits_80 (Nat.le_of_ble_eq_true rfl) ?_
    refine gr_iadd C dL_edits_83 ?_
    refine gr_sub [6, 7, 8, 9, 10, 5, 4, 3, 2, 1, 0] rfl ?_
    exact k84 _ ((if_neg c65_1).symm)
  · refine gr_iconst C 0 dL_edits_68 (by decide) ?_
    refine gr_goto C 84 dL_edits_69 (by decide) ?_
    refine gr_sub [6, 7, 8, 9, 10, 5, 4, 3, 2, 1, 0] rfl ?_
    exact k84 _ ((if_pos c65_1).symm)
