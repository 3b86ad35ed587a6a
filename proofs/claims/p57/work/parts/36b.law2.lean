/-! THE LAW'S METHODS (2) -/
def w_L_areItems_L118 (B : Nat × Nat) (o : Nat) (a2 : Int32) (Q : Int32 → LwS → Prop) (r1 : Int32) (K12 : (Int32 × Int32 × LwS) → Prop) (z12 : Int32 × Int32 × LwS) (r12 : Int32) (r13 : Int32) (r14 : Int32) (K118 : (Int32 × Int32 × LwS) → Prop) (z118 : Int32 × Int32 × LwS) : Prop := ∃ J180 : Prop, (J180 → (∃ J296 : Int32 → LwS → Prop, (∀ x18 : Int32, ∀ t19 : LwS, J296 x18 t19 → (((x18 = 0) → Q 0 t19) ∧ (¬ (x18 = 0) → ∀ x20 : Int32, x20 = (z12.1 + r13) → K12 (x20, (z12.2.1 + 1), t19)))) ∧ ∃ J295 : LwS → Prop, (∀ t21 : LwS, J295 t21 → (J296 0 t21)) ∧ (((z118.1 = 0) → J295 z118.2.2) ∧ (¬ (z118.1 = 0) → ∃ J197 : Prop, (J197 → (∃ J291 : LwS → Prop, (∀ t22 : LwS, J291 t22 → (J296 1 t22)) ∧ (((r12 = 2) → (((r14 < 0) ∨ ((4 ≤ r14) ∨ (r14 = a2))) → J295 z118.2.2) ∧ (¬ ((r14 < 0) ∨ ((4 ≤ r14) ∨ (r14 = a2))) → lcall B z118.2.2 (fun B1 K => w_L_events B1 o r14 z12.1 z118.2.2 K) (fun r23 t23 => (((r23 ≤ 0) ∨ (z12.2.1 ≤ 0)) → J295 t23) ∧ (¬ ((r23 ≤ 0) ∨ (z12.2.1 ≤ 0)) → lcall B t23 (fun B1 K => w_L_itemKind B1 o a2 (z12.2.1 - 1) t23 K) (fun r24 t24 => ((r24 = 1) → lcall B t24 (fun B1 K => w_L_itemBars B1 o a2 (z12.2.1 - 1) t24 K) (fun r25 t25 => (((r25 ≤ 2) ∨ (r1 ≤ (z12.2.1 + 1))) → J295 t25) ∧ (¬ ((r25 ≤ 2) ∨ (r1 ≤ (z12.2.1 + 1))) → lcall B t25 (fun B1 K => w_L_itemKind B1 o a2 (z12.2.1 + 1) t25 K) (fun r26 t26 => ((r26 = 0) → J291 t26) ∧ (¬ (r26 = 0) → J295 t26))))) ∧ (¬ (r24 = 1) → J295 t24)))))) ∧ (¬ (r12 = 2) → ((r14 = (-1)) → J291 z118.2.2) ∧ (¬ (r14 = (-1)) → J295 z118.2.2))))) ∧ (((r12 = 1) → J197) ∧ (¬ (r12 = 1) → ((r13 = 1) → J197) ∧ (¬ (r13 = 1) → J295 z118.2.2))))))) ∧ (((r13 ≤ z118.2.1) → J180) ∧ (¬ (r13 ≤ z118.2.1) → ((z118.1 = 0) → J180) ∧ (¬ (z118.1 = 0) → ∃ J172 : Int32 → LwS → Prop, (∀ x27 : Int32, ∀ t28 : LwS, J172 x27 t28 → (K118 (x27, (z118.2.1 + 1), t28))) ∧ (((r12 = 0) → lcall B z118.2.2 (fun B1 K => w_L_events B1 o a2 (z12.1 + z118.2.1) z118.2.2 K) (fun r29 t29 => ((r29 ≤ 0) → J172 0 t29) ∧ (¬ (r29 ≤ 0) → J172 1 t29))) ∧ (¬ (r12 = 0) → lcall B z118.2.2 (fun B1 K => w_L_events B1 o a2 (z12.1 + z118.2.1) z118.2.2 K) (fun r30 t30 => ((r30 = 0) → J172 1 t30) ∧ (¬ (r30 = 0) → J172 0 t30)))))))
def w_L_areItems_L12 (B : Nat × Nat) (o : Nat) (a1 : Nat) (a2 : Int32) (Q : Int32 → LwS → Prop) (r1 : Int32) (K12 : (Int32 × Int32 × LwS) → Prop) (z12 : Int32 × Int32 × LwS) : Prop := ((r1 ≤ z12.2.1) → (vp_in 0 (rN z12.2.2.2 a1)) ∧ ∃ J387 : Int32 → LwS → Prop, (∀ x3 : Int32, ∀ t4 : LwS, J387 x3 t4 → ((gb x3) ∧ Q x3 t4)) ∧ ∃ J386 : LwS → Prop, (∀ t6 : LwS, J386 t6 → (J387 0 t6)) ∧ (((z12.1 = (rG z12.2.2.2 a1 (Int32.toNatClampNeg 0))) → lcall B z12.2.2 (fun B1 K => w_L_itemKind B1 o a2 r1 z12.2.2 K) (fun r7 t7 => ((r7 = (-1000001)) → lcall B t7 (fun B1 K => w_L_itemBar B1 o a2 (-1) t7 K) (fun r8 t8 => ((r8 = (-1000001)) → lcall B t8 (fun B1 K => w_L_itemBars B1 o a2 r1 t8 K) (fun r9 t9 => ((r9 = (-1000001)) → lcall B t9 (fun B1 K => w_L_cue B1 o a2 r1 t9 K) (fun r10 t10 => ((r10 = (-1000001)) → lcall B t10 (fun B1 K => w_L_itemWidth B1 o a2 r1 t10 K) (fun r11 t11 => ((r11 = (-1000001)) → J387 1 t11) ∧ (¬ (r11 = (-1000001)) → J386 t11))) ∧ (¬ (r10 = (-1000001)) → J386 t10))) ∧ (¬ (r9 = (-1000001)) → J386 t9))) ∧ (¬ (r8 = (-1000001)) → J386 t8))) ∧ (¬ (r7 = (-1000001)) → J386 t7))) ∧ (¬ (z12.1 = (rG z12.2.2.2 a1 (Int32.toNatClampNeg 0))) → J386 z12.2.2))) ∧ (¬ (r1 ≤ z12.2.1) → lcall B z12.2.2 (fun B1 K => w_L_itemKind B1 o a2 z12.2.1 z12.2.2 K) (fun r12 t12 => lcall B t12 (fun B1 K => w_L_itemBars B1 o a2 z12.2.1 t12 K) (fun r13 t13 => lcall B t13 (fun B1 K => w_L_cue B1 o a2 z12.2.1 t13 K) (fun r14 t14 => lcall B t14 (fun B1 K => w_L_itemBar B1 o a2 z12.2.1 t14 K) (fun r15 t15 => ∃ J113 : Int32 → LwS → Prop, (∀ x16 : Int32, ∀ t17 : LwS, J113 x16 t17 → (∃ n, lp (w_L_areItems_L118 B o a2 Q r1 K12 z12 r12 r13 r14) n (x16, 0, t17))) ∧ ∃ J112 : LwS → Prop, (∀ t31 : LwS, J112 t31 → (J113 0 t31)) ∧ (((r15 = z12.1) → (¬ (r13 < 1)) → vp_in 0 (rN t15.2 a1)) ∧ (((¬ (r15 = z12.1)) ∨ ((r13 < 1) ∨ ((rG t15.2 a1 (Int32.toNatClampNeg 0)) < (z12.1 + r13)))) → J112 t15) ∧ (¬ ((¬ (r15 = z12.1)) ∨ ((r13 < 1) ∨ ((rG t15.2 a1 (Int32.toNatClampNeg 0)) < (z12.1 + r13)))) → lcall B t15 (fun B1 K => w_L_itemWidth B1 o a2 z12.2.1 t15 K) (fun r33 t33 => ∀ x34 : Int32, x34 = (if r12 = 1 then 0 else 3) → (((r33 < ((13 : Int32) - x34)) ∨ ((r12 < 0) ∨ (3 ≤ r12))) → J112 t33) ∧ (¬ ((r33 < ((13 : Int32) - x34)) ∨ ((r12 < 0) ∨ (3 ≤ r12))) → J113 1 t33)))))))))
def w_L_areItems (B : Nat × Nat) (o : Nat) (a1 : Nat) (a2 : Int32) (t : LwS) (Q : Int32 → LwS → Prop) : Prop := lcall B t (fun B1 K => w_L_items B1 o a2 t K) (fun r1 t1 => ∃ n, lp (w_L_areItems_L12 B o a1 a2 Q r1) n (0, 0, t1))
set_option maxRecDepth 20000 in
set_option maxHeartbeats 4000000 in
theorem c_L_areItems (l : Launch) (D : va_G) (K : Nat → ClassId) (E0 b0 : Nat) (B : Nat × Nat) (o : Nat) (a1 : Nat) (a2 : Int32) (t : LwS) (Q : Int32 → LwS → Prop) (h : w_L_areItems B o a1 a2 t Q) : MetR l yL_areItems (.code yL_areItems cL_areItems 11 (some .boolean)) 14 [.ref o, .ref a1, .int a2] Q D K E0 b0 B t := by
  unfold w_L_areItems at h
  refine gr_start (by decide) rfl (Nat.le_of_ble_eq_true rfl) (fun p e s m args below meth c C E => ?_)
  refine gr_iconst C 0 dL_areItems_0 (by decide) ?_
  refine gr_istoren C 3 [(3, .int 0), (0, .ref o), (1, .ref a1), (2, .int a2)] dL_areItems_1 rfl (by decide) rfl ?_
  refine gr_aloadn C 1 0 dL_areItems_2 rfl rfl ?_
  refine gr_iloadn C 3 2 dL_areItems_3 rfl rfl ?_
  obtain ⟨B1, hB1, hR1, h⟩ := h
  refine gr_callW C (y := yL_items) (as := [.ref o, .int a2]) (by exact ⟨Nat.le_of_ble_eq_true rfl, Nat.le_of_ble_eq_true rfl⟩) B1 hB1 hR1 (c_L_items l D K E0 b0 B1 o a2 t _ h) hk_L_items rfl vs_L_208 kc_L_items dL_areItems_4 (Nat.le_of_ble_eq_true rfl) (fun r1 t1 h z1 z2 => ?_)
  have h := h z1 z2
  refine gr_istore C [(4, .int r1), (3, .int 0), (0, .ref o), (1, .ref a1), (2, .int a2)] dL_areItems_7 (by decide) rfl ?_
  refine gr_iconst C 0 dL_areItems_9 (by decide) ?_
  refine gr_istore C [(5, .int 0), (4, .int r1), (3, .int 0), (0, .ref o), (1, .ref a1), (2, .int a2)] dL_areItems_10 (by decide) rfl ?_
  refine gr_sub [3, 4, 5, 2, 1, 0] rfl ?_
  obtain ⟨n12, h⟩ := h
  have k12 : ∀ (n12 : Nat) (z12 : Int32 × Int32 × LwS), lp (w_L_areItems_L12 B o a1 a2 Q r1) n12 z12 → GR p l e (rmC 14 B t.1) s m args below meth c 11 D K E0 B b0 (gr_Q below D K E0 b0 Q args s (rmC 14 B t.1)) z12.2.2 12 [(0, .ref o), (1, .ref a1), (2, .int a2), (3, .int z12.1), (4, .int r1), (5, .int z12.2.1)] [] := by
    intro n12
    induction n12 with
    | zero => intro z12 h; exact h.elim
    | succ n12 ih12 =>
      intro z12 h
      have h : w_L_areItems_L12 B o a1 a2 Q r1 (lp (w_L_areItems_L12 B o a1 a2 Q r1) n12) z12 := h
      unfold w_L_areItems_L12 at h
      refine gr_iload C 5 dL_areItems_12 rfl ?_
      refine gr_iload C 4 dL_areItems_14 rfl ?_
      refine gr_icmp_ge C 316 dL_areItems_16 (by decide) (fun c16_1 => ?_) (fun c16_1 => ?_)
      · have h := h.1 c16_1
        refine gr_iloadn C 3 3 dL_areItems_316 rfl rfl ?_
        refine gr_aloadn C 1 1 dL_areItems_317 rfl rfl ?_
        refine gr_iconst C 0 dL_areItems_318 (by decide) ?_
        obtain ⟨g2, h⟩ := h
        refine gr_iald C g2 dL_areItems_319 ?_
        obtain ⟨J387, hJ387, h⟩ := h
        have k387 : ∀ x3 : Int32, ∀ t4 : LwS, J387 x3 t4 → GR p l e (rmC 14 B t.1) s m args below meth c 11 D K E0 B b0 (gr_Q below D K E0 b0 Q args s (rmC 14 B t.1)) t4 387 [] [.int x3] := by
          intro x3 t4 h
          have h := hJ387 x3 t4 h
          obtain ⟨g5, h⟩ := h
          exact gr_zret C E g5 dL_areItems_387 h
        obtain ⟨J386, hJ386, h⟩ := h
        have k386 : ∀ t6 : LwS, J386 t6 → GR p l e (rmC 14 B t.1) s m args below meth c 11 D K E0 B b0 (gr_Q below D K E0 b0 Q args s (rmC 14 B t.1)) t6 386 [] [] := by
          intro t6 h
          have h := hJ386 t6 h
          refine gr_iconst C 0 dL_areItems_386 (by decide) ?_
          exact k387 0 t6 h
        refine gr_icmp_ne C 386 dL_areItems_320 (by decide) (fun c320_2 => ?_) (fun c320_2 => ?_)
        · have h := h.2 c320_2
          refine gr_sub [] rfl ?_
          exact k386 z12.2.2 h
        · have h := h.1 c320_2
          refine gr_aloadn C 0 0 dL_areItems_323 rfl rfl ?_
          refine gr_iloadn C 2 2 dL_areItems_324 rfl rfl ?_
          refine gr_iload C 4 dL_areItems_325 rfl ?_
          obtain ⟨B7, hB7, hR7, h⟩ := h
          refine gr_callW C (y := yL_itemKind) (as := [.ref o, .int a2, .int r1]) (by exact ⟨Nat.le_of_ble_eq_true rfl, Nat.le_of_ble_eq_true rfl⟩) B7 hB7 hR7 (c_L_itemKind l D K E0 b0 B7 o a2 r1 z12.2.2 _ h) hk_L_itemKind rfl vs_L_226 kc_L_itemKind dL_areItems_327 (Nat.le_of_ble_eq_true rfl) (fun r7 t7 h z1 z2 => ?_)
          have h := h z1 z2
          refine gr_ldc C (-1000001) v_i533 dL_areItems_330 ?_
          refine gr_icmp_ne C 386 dL_areItems_332 (by decide) (fun c332_3 => ?_) (fun c332_3 => ?_)
          · have h := h.2 c332_3
            refine gr_sub [] rfl ?_
            exact k386 t7 h
          · have h := h.1 c332_3
            refine gr_aloadn C 0 0 dL_areItems_335 rfl rfl ?_
            refine gr_iloadn C 2 2 dL_areItems_336 rfl rfl ?_
            refine gr_iconst C (-1) dL_areItems_337 (by decide) ?_
            obtain ⟨B8, hB8, hR8, h⟩ := h
            refine gr_callW C (y := yL_itemBar) (as := [.ref o, .int a2, .int (-1)]) (by exact ⟨Nat.le_of_ble_eq_true rfl, Nat.le_of_ble_eq_true rfl⟩) B8 hB8 hR8 (c_L_itemBar l D K E0 b0 B8 o a2 (-1) t7 _ h) hk_L_itemBar rfl vs_L_232 kc_L_itemBar dL_areItems_338 (Nat.le_of_ble_eq_true rfl) (fun r8 t8 h z1 z2 => ?_)
            have h := h z1 z2
            refine gr_ldc C (-1000001) v_i533 dL_areItems_341 ?_
            refine gr_icmp_ne C 386 dL_areItems_343 (by decide) (fun c343_4 => ?_) (fun c343_4 => ?_)
            · have h := h.2 c343_4
              refine gr_sub [] rfl ?_
              exact k386 t8 h
            · have h := h.1 c343_4
              refine gr_aloadn C 0 0 dL_areItems_346 rfl rfl ?_
              refine gr_iloadn C 2 2 dL_areItems_347 rfl rfl ?_
              refine gr_iload C 4 dL_areItems_348 rfl ?_
              obtain ⟨B9, hB9, hR9, h⟩ := h
              refine gr_callW C (y := yL_itemBars) (as := [.ref o, .int a2, .int r1]) (by exact ⟨Nat.le_of_ble_eq_true rfl, Nat.le_of_ble_eq_true rfl⟩) B9 hB9 hR9 (c_L_itemBars l D K E0 b0 B9 o a2 r1 t8 _ h) hk_L_itemBars rfl vs_L_228 kc_L_itemBars dL_areItems_350 (Nat.le_of_ble_eq_true rfl) (fun r9 t9 h z1 z2 => ?_)
              have h := h z1 z2
              refine gr_ldc C (-1000001) v_i533 dL_areItems_353 ?_
              refine gr_icmp_ne C 386 dL_areItems_355 (by decide) (fun c355_5 => ?_) (fun c355_5 => ?_)
              · have h := h.2 c355_5
                refine gr_sub [] rfl ?_
                exact k386 t9 h
              · have h := h.1 c355_5
                refine gr_aloadn C 0 0 dL_areItems_358 rfl rfl ?_
                refine gr_iloadn C 2 2 dL_areItems_359 rfl rfl ?_
                refine gr_iload C 4 dL_areItems_360 rfl ?_
                obtain ⟨B10, hB10, hR10, h⟩ := h
                refine gr_callW C (y := yL_cue) (as := [.ref o, .int a2, .int r1]) (by exact ⟨Nat.le_of_ble_eq_true rfl, Nat.le_of_ble_eq_true rfl⟩) B10 hB10 hR10 (c_L_cue l D K E0 b0 B10 o a2 r1 t9 _ h) hk_L_cue rfl vs_L_230 kc_L_cue dL_areItems_362 (Nat.le_of_ble_eq_true rfl) (fun r10 t10 h z1 z2 => ?_)
                have h := h z1 z2
                refine gr_ldc C (-1000001) v_i533 dL_areItems_365 ?_
                refine gr_icmp_ne C 386 dL_areItems_367 (by decide) (fun c367_6 => ?_) (fun c367_6 => ?_)
                · have h := h.2 c367_6
                  refine gr_sub [] rfl ?_
                  exact k386 t10 h
                · have h := h.1 c367_6
                  refine gr_aloadn C 0 0 dL_areItems_370 rfl rfl ?_
                  refine gr_iloadn C 2 2 dL_areItems_371 rfl rfl ?_
                  refine gr_iload C 4 dL_areItems_372 rfl ?_
                  obtain ⟨B11, hB11, hR11, h⟩ := h
                  refine gr_callW C (y := yL_itemWidth) (as := [.ref o, .int a2, .int r1]) (by exact ⟨Nat.le_of_ble_eq_true rfl, Nat.le_of_ble_eq_true rfl⟩) B11 hB11 hR11 (c_L_itemWidth l D K E0 b0 B11 o a2 r1 t10 _ h) hk_L_itemWidth rfl vs_L_234 kc_L_itemWidth dL_areItems_374 (Nat.le_of_ble_eq_true rfl) (fun r11 t11 h z1 z2 => ?_)
                  have h := h z1 z2
                  refine gr_ldc C (-1000001) v_i533 dL_areItems_377 ?_
                  refine gr_icmp_ne C 386 dL_areItems_379 (by decide) (fun c379_7 => ?_) (fun c379_7 => ?_)
                  · have h := h.2 c379_7
                    refine gr_sub [] rfl ?_
                    exact k386 t11 h
                  · have h := h.1 c379_7
                    refine gr_iconst C 1 dL_areItems_382 (by decide) ?_
                    refine gr_goto C 387 dL_areItems_383 (by decide) ?_
                    refine gr_sub [] rfl ?_
                    exact k387 1 t11 h
      · have h := h.2 c16_1
        refine gr_aloadn C 0 0 dL_areItems_19 rfl rfl ?_
        refine gr_iloadn C 2 2 dL_areItems_20 rfl rfl ?_
        refine gr_iload C 5 dL_areItems_21 rfl ?_
        obtain ⟨B12, hB12, hR12, h⟩ := h
        refine gr_callW C (y := yL_itemKind) (as := [.ref o, .int a2, .int z12.2.1]) (by exact ⟨Nat.le_of_ble_eq_true rfl, Nat.le_of_ble_eq_true rfl⟩) B12 hB12 hR12 (c_L_itemKind l D K E0 b0 B12 o a2 z12.2.1 z12.2.2 _ h) hk_L_itemKind rfl vs_L_226 kc_L_itemKind dL_areItems_23 (Nat.le_of_ble_eq_true rfl) (fun r12 t12 h z1 z2 => ?_)
        have h := h z1 z2
        refine gr_istore C [(6, .int r12), (0, .ref o), (1, .ref a1), (2, .int a2), (3, .int z12.1), (4, .int r1), (5, .int z12.2.1)] dL_areItems_26 (by decide) rfl ?_
        refine gr_aloadn C 1 0 dL_areItems_28 rfl rfl ?_
        refine gr_iloadn C 3 2 dL_areItems_29 rfl rfl ?_
        refine gr_iload C 6 dL_areItems_30 rfl ?_
        obtain ⟨B13, hB13, hR13, h⟩ := h
        refine gr_callW C (y := yL_itemBars) (as := [.ref o, .int a2, .int z12.2.1]) (by exact ⟨Nat.le_of_ble_eq_true rfl, Nat.le_of_ble_eq_true rfl⟩) B13 hB13 hR13 (c_L_itemBars l D K E0 b0 B13 o a2 z12.2.1 t12 _ h) hk_L_itemBars rfl vs_L_228 kc_L_itemBars dL_areItems_32 (Nat.le_of_ble_eq_true rfl) (fun r13 t13 h z1 z2 => ?_)
        have h := h z1 z2
        refine gr_istore C [(7, .int r13), (6, .int r12), (0, .ref o), (1, .ref a1), (2, .int a2), (3, .int z12.1), (4, .int r1), (5, .int z12.2.1)] dL_areItems_35 (by decide) rfl ?_
        refine gr_aloadn C 2 0 dL_areItems_37 rfl rfl ?_
        refine gr_iloadn C 4 2 dL_areItems_38 rfl rfl ?_
        refine gr_iload C 7 dL_areItems_39 rfl ?_
        obtain ⟨B14, hB14, hR14, h⟩ := h
        refine gr_callW C (y := yL_cue) (as := [.ref o, .int a2, .int z12.2.1]) (by exact ⟨Nat.le_of_ble_eq_true rfl, Nat.le_of_ble_eq_true rfl⟩) B14 hB14 hR14 (c_L_cue l D K E0 b0 B14 o a2 z12.2.1 t13 _ h) hk_L_cue rfl vs_L_230 kc_L_cue dL_areItems_41 (Nat.le_of_ble_eq_true rfl) (fun r14 t14 h z1 z2 => ?_)
        have h := h z1 z2
        refine gr_istore C [(8, .int r14), (7, .int r13), (6, .int r12), (0, .ref o), (1, .ref a1), (2, .int a2), (3, .int z12.1), (4, .int r1), (5, .int z12.2.1)] dL_areItems_44 (by decide) rfl ?_
        refine gr_aloadn C 3 0 dL_areItems_46 rfl rfl ?_
        refine gr_iloadn C 5 2 dL_areItems_47 rfl rfl ?_
        refine gr_iload C 8 dL_areItems_48 rfl ?_
        obtain ⟨B15, hB15, hR15, h⟩ := h
        refine gr_callW C (y := yL_itemBar) (as := [.ref o, .int a2, .int z12.2.1]) (by exact ⟨Nat.le_of_ble_eq_true rfl, Nat.le_of_ble_eq_true rfl⟩) B15 hB15 hR15 (c_L_itemBar l D K E0 b0 B15 o a2 z12.2.1 t14 _ h) hk_L_itemBar rfl vs_L_232 kc_L_itemBar dL_areItems_50 (Nat.le_of_ble_eq_true rfl) (fun r15 t15 h z1 z2 => ?_)
        have h := h z1 z2
        refine gr_iloadn C 6 3 dL_areItems_53 rfl rfl ?_
        obtain ⟨J113, hJ113, h⟩ := h
        have k113 : ∀ x16 : Int32, ∀ t17 : LwS, J113 x16 t17 → GR p l e (rmC 14 B t.1) s m args below meth c 11 D K E0 B b0 (gr_Q below D K E0 b0 Q args s (rmC 14 B t.1)) t17 113 [(0, .ref o), (1, .ref a1), (2, .int a2), (3, .int z12.1), (4, .int r1), (5, .int z12.2.1), (6, .int r12), (7, .int r13), (8, .int r14)] [.int x16] := by
          intro x16 t17 h
          have h := hJ113 x16 t17 h
          refine gr_istore C [(9, .int x16), (0, .ref o), (1, .ref a1), (2, .int a2), (3, .int z12.1), (4, .int r1), (5, .int z12.2.1), (6, .int r12), (7, .int r13), (8, .int r14)] dL_areItems_113 (by decide) rfl ?_
          refine gr_iconst C 0 dL_areItems_115 (by decide) ?_
          refine gr_istore C [(10, .int 0), (9, .int x16), (0, .ref o), (1, .ref a1), (2, .int a2), (3, .int z12.1), (4, .int r1), (5, .int z12.2.1), (6, .int r12), (7, .int r13), (8, .int r14)] dL_areItems_116 (by decide) rfl ?_
          refine gr_sub [2, 3, 4, 5, 6, 7, 8, 9, 10, 1, 0] rfl ?_
          obtain ⟨n118, h⟩ := h
          have k118 : ∀ (n118 : Nat) (z118 : Int32 × Int32 × LwS), lp (w_L_areItems_L118 B o a2 Q r1 (lp (w_L_areItems_L12 B o a1 a2 Q r1) n12) z12 r12 r13 r14) n118 z118 → GR p l e (rmC 14 B t.1) s m args below meth c 11 D K E0 B b0 (gr_Q below D K E0 b0 Q args s (rmC 14 B t.1)) z118.2.2 118 [(0, .ref o), (1, .ref a1), (2, .int a2), (3, .int z12.1), (4, .int r1), (5, .int z12.2.1), (6, .int r12), (7, .int r13), (8, .int r14), (9, .int z118.1), (10, .int z118.2.1)] [] := by
            intro n118
            induction n118 with
            | zero => intro z118 h; exact h.elim
            | succ n118 ih118 =>
              intro z118 h
              have h : w_L_areItems_L118 B o a2 Q r1 (lp (w_L_areItems_L12 B o a1 a2 Q r1) n12) z12 r12 r13 r14 (lp (w_L_areItems_L118 B o a2 Q r1 (lp (w_L_areItems_L12 B o a1 a2 Q r1) n12) z12 r12 r13 r14) n118) z118 := h
              unfold w_L_areItems_L118 at h
              refine gr_iload C 10 dL_areItems_118 rfl ?_
              refine gr_iload C 7 dL_areItems_120 rfl ?_
              obtain ⟨J180, hJ180, h⟩ := h
              have k180 : J180 → GR p l e (rmC 14 B t.1) s m args below meth c 11 D K E0 B b0 (gr_Q below D K E0 b0 Q args s (rmC 14 B t.1)) z118.2.2 180 [(0, .ref o), (1, .ref a1), (2, .int a2), (3, .int z12.1), (4, .int r1), (5, .int z12.2.1), (6, .int r12), (7, .int r13), (8, .int r14), (9, .int z118.1)] [] := by
                intro  h
                have h := hJ180 h
                refine gr_iload C 9 dL_areItems_180 rfl ?_
                obtain ⟨J296, hJ296, h⟩ := h
                have k296 : ∀ x18 : Int32, ∀ t19 : LwS, J296 x18 t19 → GR p l e (rmC 14 B t.1) s m args below meth c 11 D K E0 B b0 (gr_Q below D K E0 b0 Q args s (rmC 14 B t.1)) t19 296 [(0, .ref o), (1, .ref a1), (2, .int a2), (3, .int z12.1), (4, .int r1), (5, .int z12.2.1), (7, .int r13)] [.int x18] := by
                  intro x18 t19 h
                  have h := hJ296 x18 t19 h
                  refine gr_istore C [(9, .int x18), (0, .ref o), (1, .ref a1), (2, .int a2), (3, .int z12.1), (4, .int r1), (5, .int z12.2.1), (7, .int r13)] dL_areItems_296 (by decide) rfl ?_
                  refine gr_iload C 0 dL_areItems_298 rfl ?_
                  refine gr_if_ne C 305 dL_areItems_300 (by decide) (fun c300_8 => ?_) (fun c300_8 => ?_)
                  · have h := h.2 c300_8
                    refine gr_iloadn C 4 3 dL_areItems_305 rfl rfl ?_
                    refine gr_iload C 7 dL_areItems_306 rfl ?_
                    refine gr_iadd C dL_areItems_308 ?_
                    refine gr_nameI (fun x20 ex20 => ?_)
                    have h := h x20 ex20
                    refine gr_istoren C 3 [(3, .int x20), (9, .int x18), (0, .ref o), (1, .ref a1), (2, .int a2), (4, .int r1), (5, .int z12.2.1), (7, .int r13)] dL_areItems_309 rfl (by decide) rfl ?_
                    refine gr_iinc C 6 (z12.2.1 + 1) [(5, .int (z12.2.1 + 1)), (3, .int x20), (9, .int x18), (0, .ref o), (1, .ref a1), (2, .int a2), (4, .int r1), (7, .int r13)] dL_areItems_310 rfl rfl (by decide) rfl ?_
                    refine gr_goto C 12 dL_areItems_313 (by decide) ?_
                    refine gr_sub [3, 4, 5, 1, 6, 0] rfl ?_
                    have h9 := ih12 (x20, (z12.2.1 + 1), t19) h
                    exact h9
                  · have h := h.1 c300_8
                    refine gr_iconst C 0 dL_areItems_303 (by decide) ?_
                    exact gr_zret C E (Or.inl rfl) dL_areItems_304 h
                obtain ⟨J295, hJ295, h⟩ := h
                have k295 : ∀ t21 : LwS, J295 t21 → GR p l e (rmC 14 B t.1) s m args below meth c 11 D K E0 B b0 (gr_Q below D K E0 b0 Q args s (rmC 14 B t.1)) t21 295 [(0, .ref o), (1, .ref a1), (2, .int a2), (3, .int z12.1), (4, .int r1), (5, .int z12.2.1), (7, .int r13)] [] := by
                  intro t21 h
                  have h := hJ295 t21 h
                  refine gr_iconst C 0 dL_areItems_295 (by decide) ?_
                  exact k296 0 t21 h
                refine gr_if_eq C 295 dL_areItems_182 (by decide) (fun c182_9 => ?_) (fun c182_9 => ?_)
                · have h := h.1 c182_9
                  refine gr_sub [0, 1, 2, 3, 4, 5, 7] rfl ?_
                  exact k295 z118.2.2 h
                · have h := h.2 c182_9
                  refine gr_iload C 6 dL_areItems_185 rfl ?_
                  refine gr_iconst C 1 dL_areItems_187 (by decide) ?_
                  obtain ⟨J197, hJ197, h⟩ := h
                  have k197 : J197 → GR p l e (rmC 14 B t.1) s m args below meth c 11 D K E0 B b0 (gr_Q below D K E0 b0 Q args s (rmC 14 B t.1)) z118.2.2 197 [(0, .ref o), (1, .ref a1), (2, .int a2), (3, .int z12.1), (4, .int r1), (5, .int z12.2.1), (6, .int r12), (7, .int r13), (8, .int r14)] [] := by
                    intro  h
                    have h := hJ197 h
                    refine gr_iload C 6 dL_areItems_197 rfl ?_
                    refine gr_iconst C 2 dL_areItems_199 (by decide) ?_
                    obtain ⟨J291, hJ291, h⟩ := h
                    have k291 : ∀ t22 : LwS, J291 t22 → GR p l e (rmC 14 B t.1) s m args below meth c 11 D K E0 B b0 (gr_Q below D K E0 b0 Q args s (rmC 14 B t.1)) t22 291 [(0, .ref o), (1, .ref a1), (2, .int a2), (3, .int z12.1), (4, .int r1), (5, .int z12.2.1), (7, .int r13)] [] := by
                      intro t22 h
                      have h := hJ291 t22 h
                      refine gr_iconst C 1 dL_areItems_291 (by decide) ?_
                      refine gr_goto C 296 dL_areItems_292 (by decide) ?_
                      exact k296 1 t22 h
                    refine gr_icmp_ne C 285 dL_areItems_200 (by decide) (fun c200_10 => ?_) (fun c200_10 => ?_)
                    · have h := h.2 c200_10
                      refine gr_iload C 8 dL_areItems_285 rfl ?_
                      refine gr_iconst C (-1) dL_areItems_287 (by decide) ?_
                      refine gr_icmp_ne C 295 dL_areItems_288 (by decide) (fun c288_20 => ?_) (fun c288_20 => ?_)
                      · have h := h.2 c288_20
                        refine gr_sub [0, 1, 2, 3, 4, 5, 7] rfl ?_
                        exact k295 z118.2.2 h
                      · have h := h.1 c288_20
                        refine gr_sub [0, 1, 2, 3, 4, 5, 7] rfl ?_
                        exact k291 z118.2.2 h
                    · have h := h.1 c200_10
                      refine gr_iload C 8 dL_areItems_203 rfl ?_
                      have kt203 : ((r14 < 0) ∨ ((4 ≤ r14) ∨ (r14 = a2))) → GR p l e (rmC 14 B t.1) s m args below meth c 11 D K E0 B b0 (gr_Q below D K E0 b0 Q args s (rmC 14 B t.1)) z118.2.2 295 [(0, .ref o), (1, .ref a1), (2, .int a2), (3, .int z12.1), (4, .int r1), (5, .int z12.2.1), (6, .int r12), (7, .int r13), (8, .int r14)] [] := by
                        intro hc
                        have h := h.1 hc
                        refine gr_sub [0, 1, 2, 3, 4, 5, 7] rfl ?_
                        exact k295 z118.2.2 h
                      have kf203 : ¬ ((r14 < 0) ∨ ((4 ≤ r14) ∨ (r14 = a2))) → GR p l e (rmC 14 B t.1) s m args below meth c 11 D K E0 B b0 (gr_Q below D K E0 b0 Q args s (rmC 14 B t.1)) z118.2.2 220 [(0, .ref o), (1, .ref a1), (2, .int a2), (3, .int z12.1), (4, .int r1), (5, .int z12.2.1), (6, .int r12), (7, .int r13), (8, .int r14)] [] := by
                        intro hc
                        have h := h.2 hc
                        refine gr_aloadn C 0 0 dL_areItems_220 rfl rfl ?_
                        refine gr_iload C 8 dL_areItems_221 rfl ?_
                        refine gr_iloadn C 3 3 dL_areItems_223 rfl rfl ?_
                        obtain ⟨B23, hB23, hR23, h⟩ := h
                        refine gr_callW C (y := yL_events) (as := [.ref o, .int r14, .int z12.1]) (by exact ⟨Nat.le_of_ble_eq_true rfl, Nat.le_of_ble_eq_true rfl⟩) B23 hB23 hR23 (c_L_events l D K E0 b0 B23 o r14 z12.1 z118.2.2 _ h) hk_L_events rfl vs_L_236 kc_L_events dL_areItems_224 (Nat.le_of_ble_eq_true rfl) (fun r23 t23 h z1 z2 => ?_)
                        have h := h z1 z2
                        have kt220 : ((r23 ≤ 0) ∨ (z12.2.1 ≤ 0)) → GR p l e (rmC 14 B t.1) s m args below meth c 11 D K E0 B b0 (gr_Q below D K E0 b0 Q args s (rmC 14 B t.1)) t23 295 [(0, .ref o), (1, .ref a1), (2, .int a2), (3, .int z12.1), (4, .int r1), (5, .int z12.2.1), (6, .int r12), (7, .int r13), (8, .int r14)] [] := by
                          intro hc
                          have h := h.1 hc
                          refine gr_sub [0, 1, 2, 3, 4, 5, 7] rfl ?_
                          exact k295 t23 h
                        have kf220 : ¬ ((r23 ≤ 0) ∨ (z12.2.1 ≤ 0)) → GR p l e (rmC 14 B t.1) s m args below meth c 11 D K E0 B b0 (gr_Q below D K E0 b0 Q args s (rmC 14 B t.1)) t23 235 [(0, .ref o), (1, .ref a1), (2, .int a2), (3, .int z12.1), (4, .int r1), (5, .int z12.2.1), (6, .int r12), (7, .int r13), (8, .int r14)] [] := by
                          intro hc
                          have h := h.2 hc
                          refine gr_aloadn C 0 0 dL_areItems_235 rfl rfl ?_
                          refine gr_iloadn C 2 2 dL_areItems_236 rfl rfl ?_
                          refine gr_iload C 5 dL_areItems_237 rfl ?_
                          refine gr_iconst C 1 dL_areItems_239 (by decide) ?_
                          refine gr_isub C dL_areItems_240 ?_
                          obtain ⟨B24, hB24, hR24, h⟩ := h
                          refine gr_callW C (y := yL_itemKind) (as := [.ref o, .int a2, .int (z12.2.1 - 1)]) (by exact ⟨Nat.le_of_ble_eq_true rfl, Nat.le_of_ble_eq_true rfl⟩) B24 hB24 hR24 (c_L_itemKind l D K E0 b0 B24 o a2 (z12.2.1 - 1) t23 _ h) hk_L_itemKind rfl vs_L_226 kc_L_itemKind dL_areItems_241 (Nat.le_of_ble_eq_true rfl) (fun r24 t24 h z1 z2 => ?_)
                          have h := h z1 z2
                          refine gr_iconst C 1 dL_areItems_244 (by decide) ?_
                          refine gr_icmp_ne C 295 dL_areItems_245 (by decide) (fun c245_16 => ?_) (fun c245_16 => ?_)
                          · have h := h.2 c245_16
                            refine gr_sub [0, 1, 2, 3, 4, 5, 7] rfl ?_
                            exact k295 t24 h
                          · have h := h.1 c245_16
                            refine gr_aloadn C 0 0 dL_areItems_248 rfl rfl ?_
                            refine gr_iloadn C 2 2 dL_areItems_249 rfl rfl ?_
                            refine gr_iload C 5 dL_areItems_250 rfl ?_
                            refine gr_iconst C 1 dL_areItems_252 (by decide) ?_
                            refine gr_isub C dL_areItems_253 ?_
                            obtain ⟨B25, hB25, hR25, h⟩ := h
                            refine gr_callW C (y := yL_itemBars) (as := [.ref o, .int a2, .int (z12.2.1 - 1)]) (by exact ⟨Nat.le_of_ble_eq_true rfl, Nat.le_of_ble_eq_true rfl⟩) B25 hB25 hR25 (c_L_itemBars l D K E0 b0 B25 o a2 (z12.2.1 - 1) t24 _ h) hk_L_itemBars rfl vs_L_228 kc_L_itemBars dL_areItems_254 (Nat.le_of_ble_eq_true rfl) (fun r25 t25 h z1 z2 => ?_)
                            have h := h z1 z2
                            refine gr_iconst C 2 dL_areItems_257 (by decide) ?_
                            have kt248 : ((r25 ≤ 2) ∨ (r1 ≤ (z12.2.1 + 1))) → GR p l e (rmC 14 B t.1) s m args below meth c 11 D K E0 B b0 (gr_Q below D K E0 b0 Q args s (rmC 14 B t.1)) t25 295 [(0, .ref o), (1, .ref a1), (2, .int a2), (3, .int z12.1), (4, .int r1), (5, .int z12.2.1), (6, .int r12), (7, .int r13), (8, .int r14)] [] := by
                              intro hc
                              have h := h.1 hc
                              refine gr_sub [0, 1, 2, 3, 4, 5, 7] rfl ?_
                              exact k295 t25 h
                            have kf248 : ¬ ((r25 ≤ 2) ∨ (r1 ≤ (z12.2.1 + 1))) → GR p l e (rmC 14 B t.1) s m args below meth c 11 D K E0 B b0 (gr_Q below D K E0 b0 Q args s (rmC 14 B t.1)) t25 270 [(0, .ref o), (1, .ref a1), (2, .int a2), (3, .int z12.1), (4, .int r1), (5, .int z12.2.1), (6, .int r12), (7, .int r13), (8, .int r14)] [] := by
                              intro hc
                              have h := h.2 hc
                              refine gr_aloadn C 0 0 dL_areItems_270 rfl rfl ?_
                              refine gr_iloadn C 2 2 dL_areItems_271 rfl rfl ?_
                              refine gr_iload C 5 dL_areItems_272 rfl ?_
                              refine gr_iconst C 1 dL_areItems_274 (by decide) ?_
                              refine gr_iadd C dL_areItems_275 ?_
                              obtain ⟨B26, hB26, hR26, h⟩ := h
                              refine gr_callW C (y := yL_itemKind) (as := [.ref o, .int a2, .int (z12.2.1 + 1)]) (by exact ⟨Nat.le_of_ble_eq_true rfl, Nat.le_of_ble_eq_true rfl⟩) B26 hB26 hR26 (c_L_itemKind l D K E0 b0 B26 o a2 (z12.2.1 + 1) t25 _ h) hk_L_itemKind rfl vs_L_226 kc_L_itemKind dL_areItems_276 (Nat.le_of_ble_eq_true rfl) (fun r26 t26 h z1 z2 => ?_)
                              have h := h z1 z2
                              refine gr_if_ne C 295 dL_areItems_279 (by decide) (fun c279_19 => ?_) (fun c279_19 => ?_)
                              · have h := h.2 c279_19
                                refine gr_sub [0, 1, 2, 3, 4, 5, 7] rfl ?_
                                exact k295 t26 h
                              · have h := h.1 c279_19
                                refine gr_goto C 291 dL_areItems_282 (by decide) ?_
                                refine gr_sub [0, 1, 2, 3, 4, 5, 7] rfl ?_
                                exact k291 t26 h
                            refine gr_icmp_le C 295 dL_areItems_258 (by decide) (fun c258_17 => ?_) (fun c258_17 => ?_)
                            · exact kt248 (Or.inl c258_17)
                            · refine gr_iload C 5 dL_areItems_261 rfl ?_
                              refine gr_iconst C 1 dL_areItems_263 (by decide) ?_
                              refine gr_iadd C dL_areItems_264 ?_
                              refine gr_iload C 4 dL_areItems_265 rfl ?_
                              refine gr_icmp_ge C 295 dL_areItems_267 (by decide) (fun c267_18 => ?_) (fun c267_18 => ?_)
                              · exact kt248 (Or.inr c267_18)
                              · exact kf248 (fun q0 => Or.elim q0 c258_17 c267_18)
                        refine gr_if_le C 295 dL_areItems_227 (by decide) (fun c227_14 => ?_) (fun c227_14 => ?_)
                        · exact kt220 (Or.inl c227_14)
                        · refine gr_iload C 5 dL_areItems_230 rfl ?_
                          refine gr_if_le C 295 dL_areItems_232 (by decide) (fun c232_15 => ?_) (fun c232_15 => ?_)
                          · exact kt220 (Or.inr c232_15)
                          · exact kf220 (fun q0 => Or.elim q0 c227_14 c232_15)
                      refine gr_if_lt C 295 dL_areItems_205 (by decide) (fun c205_11 => ?_) (fun c205_11 => ?_)
                      · exact kt203 (Or.inl c205_11)
                      · refine gr_iload C 8 dL_areItems_208 rfl ?_
                        refine gr_iconst C 4 dL_areItems_210 (by decide) ?_
                        refine gr_icmp_ge C 295 dL_areItems_211 (by decide) (fun c211_12 => ?_) (fun c211_12 => ?_)
                        · exact kt203 (Or.inr (Or.inl c211_12))
                        · refine gr_iload C 8 dL_areItems_214 rfl ?_
                          refine gr_iloadn C 2 2 dL_areItems_216 rfl rfl ?_
                          refine gr_icmp_eq C 295 dL_areItems_217 (by decide) (fun c217_13 => ?_) (fun c217_13 => ?_)
                          · exact kt203 (Or.inr (Or.inr c217_13))
                          · exact kf203 (fun q0 => Or.elim q0 c205_11 (fun q1 => Or.elim q1 c211_12 c217_13))
                  refine gr_icmp_eq C 197 dL_areItems_188 (by decide) (fun c188_21 => ?_) (fun c188_21 => ?_)
                  · have h := h.1 c188_21
                    refine gr_sub [0, 1, 2, 3, 4, 5, 6, 7, 8] rfl ?_
                    exact k197 h
                  · have h := h.2 c188_21
                    refine gr_iload C 7 dL_areItems_191 rfl ?_
                    refine gr_iconst C 1 dL_areItems_193 (by decide) ?_
                    refine gr_icmp_ne C 295 dL_areItems_194 (by decide) (fun c194_22 => ?_) (fun c194_22 => ?_)
                    · have h := h.2 c194_22
                      refine gr_sub [0, 1, 2, 3, 4, 5, 7] rfl ?_
                      exact k295 z118.2.2 h
                    · have h := h.1 c194_22
                      refine gr_sub [0, 1, 2, 3, 4, 5, 6, 7, 8] rfl ?_
                      exact k197 h
              refine gr_icmp_ge C 180 dL_areItems_122 (by decide) (fun c122_23 => ?_) (fun c122_23 => ?_)
              · have h := h.1 c122_23
                refine gr_sub [0, 1, 2, 3, 4, 5, 6, 7, 8, 9] rfl ?_
                exact k180 h
              · have h := h.2 c122_23
                refine gr_iload C 9 dL_areItems_125 rfl ?_
                refine gr_if_eq C 180 dL_areItems_127 (by decide) (fun c127_24 => ?_) (fun c127_24 => ?_)
                · have h := h.1 c127_24
                  refine gr_sub [0, 1, 2, 3, 4, 5, 6, 7, 8, 9] rfl ?_
                  exact k180 h
                · have h := h.2 c127_24
                  refine gr_iload C 6 dL_areItems_130 rfl ?_
                  obtain ⟨J172, hJ172, h⟩ := h
                  have k172 : ∀ x27 : Int32, ∀ t28 : LwS, J172 x27 t28 → GR p l e (rmC 14 B t.1) s m args below meth c 11 D K E0 B b0 (gr_Q below D K E0 b0 Q args s (rmC 14 B t.1)) t28 172 [(0, .ref o), (1, .ref a1), (2, .int a2), (3, .int z12.1), (4, .int r1), (5, .int z12.2.1), (6, .int r12), (7, .int r13), (8, .int r14), (10, .int z118.2.1)] [.int x27] := by
                    intro x27 t28 h
                    have h := hJ172 x27 t28 h
                    refine gr_istore C [(9, .int x27), (0, .ref o), (1, .ref a1), (2, .int a2), (3, .int z12.1), (4, .int r1), (5, .int z12.2.1), (6, .int r12), (7, .int r13), (8, .int r14), (10, .int z118.2.1)] dL_areItems_172 (by decide) rfl ?_
                    refine gr_iinc C 10 (z118.2.1 + 1) [(10, .int (z118.2.1 + 1)), (9, .int x27), (0, .ref o), (1, .ref a1), (2, .int a2), (3, .int z12.1), (4, .int r1), (5, .int z12.2.1), (6, .int r12), (7, .int r13), (8, .int r14)] dL_areItems_174 rfl rfl (by decide) rfl ?_
                    refine gr_goto C 118 dL_areItems_177 (by decide) ?_
                    refine gr_sub [2, 3, 4, 5, 6, 7, 8, 9, 10, 1, 0] rfl ?_
                    have h9 := ih118 (x27, (z118.2.1 + 1), t28) h
                    exact h9
                  refine gr_if_ne C 155 dL_areItems_132 (by decide) (fun c132_25 => ?_) (fun c132_25 => ?_)
                  · have h := h.2 c132_25
                    refine gr_aloadn C 0 0 dL_areItems_155 rfl rfl ?_
                    refine gr_iloadn C 2 2 dL_areItems_156 rfl rfl ?_
                    refine gr_iloadn C 3 3 dL_areItems_157 rfl rfl ?_
                    refine gr_iload C 10 dL_areItems_158 rfl ?_
                    refine gr_iadd C dL_areItems_160 ?_
                    obtain ⟨B30, hB30, hR30, h⟩ := h
                    refine gr_callW C (y := yL_events) (as := [.ref o, .int a2, .int (z12.1 + z118.2.1)]) (by exact ⟨Nat.le_of_ble_eq_true rfl, Nat.le_of_ble_eq_true rfl⟩) B30 hB30 hR30 (c_L_events l D K E0 b0 B30 o a2 (z12.1 + z118.2.1) z118.2.2 _ h) hk_L_events rfl vs_L_236 kc_L_events dL_areItems_161 (Nat.le_of_ble_eq_true rfl) (fun r30 t30 h z1 z2 => ?_)
                    have h := h z1 z2
                    refine gr_if_ne C 171 dL_areItems_164 (by decide) (fun c164_27 => ?_) (fun c164_27 => ?_)
                    · have h := h.2 c164_27
                      refine gr_iconst C 0 dL_areItems_171 (by decide) ?_
                      refine gr_sub [0, 1, 2, 3, 4, 5, 6, 7, 8, 10] rfl ?_
                      exact k172 0 t30 h
                    · have h := h.1 c164_27
                      refine gr_iconst C 1 dL_areItems_167 (by decide) ?_
                      refine gr_goto C 172 dL_areItems_168 (by decide) ?_
                      refine gr_sub [0, 1, 2, 3, 4, 5, 6, 7, 8, 10] rfl ?_
                      exact k172 1 t30 h
                  · have h := h.1 c132_25
                    refine gr_aloadn C 0 0 dL_areItems_135 rfl rfl ?_
                    refine gr_iloadn C 2 2 dL_areItems_136 rfl rfl ?_
                    refine gr_iloadn C 3 3 dL_areItems_137 rfl rfl ?_
                    refine gr_iload C 10 dL_areItems_138 rfl ?_
                    refine gr_iadd C dL_areItems_140 ?_
                    obtain ⟨B29, hB29, hR29, h⟩ := h
                    refine gr_callW C (y := yL_events) (as := [.ref o, .int a2, .int (z12.1 + z118.2.1)]) (by exact ⟨Nat.le_of_ble_eq_true rfl, Nat.le_of_ble_eq_true rfl⟩) B29 hB29 hR29 (c_L_events l D K E0 b0 B29 o a2 (z12.1 + z118.2.1) z118.2.2 _ h) hk_L_events rfl vs_L_236 kc_L_events dL_areItems_141 (Nat.le_of_ble_eq_true rfl) (fun r29 t29 h z1 z2 => ?_)
                    have h := h z1 z2
                    refine gr_if_le C 151 dL_areItems_144 (by decide) (fun c144_26 => ?_) (fun c144_26 => ?_)
                    · have h := h.1 c144_26
                      refine gr_iconst C 0 dL_areItems_151 (by decide) ?_
                      refine gr_goto C 172 dL_areItems_152 (by decide) ?_
                      refine gr_sub [0, 1, 2, 3, 4, 5, 6, 7, 8, 10] rfl ?_
                      exact k172 0 t29 h
                    · have h := h.2 c144_26
                      refine gr_iconst C 1 dL_areItems_147 (by decide) ?_
                      refine gr_goto C 172 dL_areItems_148 (by decide) ?_
                      refine gr_sub [0, 1, 2, 3, 4, 5, 6, 7, 8, 10] rfl ?_
                      exact k172 1 t29 h
          exact k118 n118 (x16, 0, t17) h
        obtain ⟨J112, hJ112, h⟩ := h
        have k112 : ∀ t31 : LwS, J112 t31 → GR p l e (rmC 14 B t.1) s m args below meth c 11 D K E0 B b0 (gr_Q below D K E0 b0 Q args s (rmC 14 B t.1)) t31 112 [(0, .ref o), (1, .ref a1), (2, .int a2), (3, .int z12.1), (4, .int r1), (5, .int z12.2.1), (6, .int r12), (7, .int r13), (8, .int r14)] [] := by
          intro t31 h
          have h := hJ112 t31 h
          refine gr_iconst C 0 dL_areItems_112 (by decide) ?_
          exact k113 0 t31 h
        obtain ⟨g32, h⟩ := h
        have kt19 : ((¬ (r15 = z12.1)) ∨ ((r13 < 1) ∨ ((rG t15.2 a1 (Int32.toNatClampNeg 0)) < (z12.1 + r13)))) → GR p l e (rmC 14 B t.1) s m args below meth c 11 D K E0 B b0 (gr_Q below D K E0 b0 Q args s (rmC 14 B t.1)) t15 112 [(8, .int r14), (7, .int r13), (6, .int r12), (0, .ref o), (1, .ref a1), (2, .int a2), (3, .int z12.1), (4, .int r1), (5, .int z12.2.1)] [] := by
          intro hc
          have h := h.1 hc
          refine gr_sub [3, 4, 5, 6, 7, 8, 2, 1, 0] rfl ?_
          exact k112 t15 h
        have kf19 : ¬ ((¬ (r15 = z12.1)) ∨ ((r13 < 1) ∨ ((rG t15.2 a1 (Int32.toNatClampNeg 0)) < (z12.1 + r13)))) → GR p l e (rmC 14 B t.1) s m args below meth c 11 D K E0 B b0 (gr_Q below D K E0 b0 Q args s (rmC 14 B t.1)) t15 73 [(8, .int r14), (7, .int r13), (6, .int r12), (0, .ref o), (1, .ref a1), (2, .int a2), (3, .int z12.1), (4, .int r1), (5, .int z12.2.1)] [] := by
          intro hc
          have h := h.2 hc
          refine gr_aloadn C 3 0 dL_areItems_73 rfl rfl ?_
          refine gr_iloadn C 5 2 dL_areItems_74 rfl rfl ?_
          refine gr_iload C 8 dL_areItems_75 rfl ?_
          obtain ⟨B33, hB33, hR33, h⟩ := h
          refine gr_callW C (y := yL_itemWidth) (as := [.ref o, .int a2, .int z12.2.1]) (by exact ⟨Nat.le_of_ble_eq_true rfl, Nat.le_of_ble_eq_true rfl⟩) B33 hB33 hR33 (c_L_itemWidth l D K E0 b0 B33 o a2 z12.2.1 t15 _ h) hk_L_itemWidth rfl vs_L_234 kc_L_itemWidth dL_areItems_77 (Nat.le_of_ble_eq_true rfl) (fun r33 t33 h z1 z2 => ?_)
          have h := h z1 z2
          refine gr_bipush C 13 dL_areItems_80 (by decide) ?_
          refine gr_iload C 2 dL_areItems_82 rfl ?_
          refine gr_iconst C 1 dL_areItems_84 (by decide) ?_
          have k93 : ∀ x34 : Int32, x34 = (if r12 = 1 then 0 else 3) → GR p l e (rmC 14 B t.1) s m args below meth c 11 D K E0 B b0 (gr_Q below D K E0 b0 Q args s (rmC 14 B t.1)) t33 93 [(0, .ref o), (1, .ref a1), (2, .int a2), (3, .int z12.1), (4, .int r1), (5, .int z12.2.1), (6, .int r12), (7, .int r13), (8, .int r14)] [.int x34, .int 13, .int r33] := by
            intro x34 ex34
            have h := h x34 ex34
            refine gr_isub C dL_areItems_93 ?_
            have kt93 : ((r33 < ((13 : Int32) - x34)) ∨ ((r12 < 0) ∨ (3 ≤ r12))) → GR p l e (rmC 14 B t.1) s m args below meth c 11 D K E0 B b0 (gr_Q below D K E0 b0 Q args s (rmC 14 B t.1)) t33 112 [(0, .ref o), (1, .ref a1), (2, .int a2), (3, .int z12.1), (4, .int r1), (5, .int z12.2.1), (6, .int r12), (7, .int r13), (8, .int r14)] [] := by
              intro hc
              have h := h.1 hc
              exact k112 t33 h
            have kf93 : ¬ ((r33 < ((13 : Int32) - x34)) ∨ ((r12 < 0) ∨ (3 ≤ r12))) → GR p l e (rmC 14 B t.1) s m args below meth c 11 D K E0 B b0 (gr_Q below D K E0 b0 Q args s (rmC 14 B t.1)) t33 108 [(0, .ref o), (1, .ref a1), (2, .int a2), (3, .int z12.1), (4, .int r1), (5, .int z12.2.1), (6, .int r12), (7, .int r13), (8, .int r14)] [] := by
              intro hc
              have h := h.2 hc
              refine gr_iconst C 1 dL_areItems_108 (by decide) ?_
              refine gr_goto C 113 dL_areItems_109 (by decide) ?_
              exact k113 1 t33 h
            refine gr_icmp_lt C 112 dL_areItems_94 (by decide) (fun c94_32 => ?_) (fun c94_32 => ?_)
            · exact kt93 (Or.inl c94_32)
            · refine gr_iload C 6 dL_areItems_97 rfl ?_
              refine gr_if_lt C 112 dL_areItems_99 (by decide) (fun c99_33 => ?_) (fun c99_33 => ?_)
              · exact kt93 (Or.inr (Or.inl c99_33))
              · refine gr_iload C 6 dL_areItems_102 rfl ?_
                refine gr_iconst C 3 dL_areItems_104 (by decide) ?_
                refine gr_icmp_ge C 112 dL_areItems_105 (by decide) (fun c105_34 => ?_) (fun c105_34 => ?_)
                · exact kt93 (Or.inr (Or.inr c105_34))
                · exact kf93 (fun q0 => Or.elim q0 c94_32 (fun q1 => Or.elim q1 c99_33 c105_34))
          refine gr_icmp_ne C 92 dL_areItems_85 (by decide) (fun c85_31 => ?_) (fun c85_31 => ?_)
          · refine gr_iconst C 3 dL_areItems_92 (by decide) ?_
            refine gr_sub [3, 4, 5, 6, 7, 8, 2, 1, 0] rfl ?_
            exact k93 _ ((if_neg c85_31).symm)
          · refine gr_iconst C 0 dL_areItems_88 (by decide) ?_
            refine gr_goto C 93 dL_areItems_89 (by decide) ?_
            refine gr_sub [3, 4, 5, 6, 7, 8, 2, 1, 0] rfl ?_
            exact k93 _ ((if_pos c85_31).symm)
        refine gr_icmp_ne C 112 dL_areItems_54 (by decide) (fun c54_28 => ?_) (fun c54_28 => ?_)
        · exact kt19 (Or.inl c54_28)
        · refine gr_iload C 1 dL_areItems_57 rfl ?_
          refine gr_iconst C 1 dL_areItems_59 (by decide) ?_
          refine gr_icmp_lt C 112 dL_areItems_60 (by decide) (fun c60_29 => ?_) (fun c60_29 => ?_)
          · exact kt19 (Or.inr (Or.inl c60_29))
          · refine gr_iloadn C 6 3 dL_areItems_63 rfl rfl ?_
            refine gr_iload C 1 dL_areItems_64 rfl ?_
            refine gr_iadd C dL_areItems_66 ?_
            refine gr_aloadn C 4 1 dL_areItems_67 rfl rfl ?_
            refine gr_iconst C 0 dL_areItems_68 (by decide) ?_
            refine gr_iald C (g32 c54_28 c60_29) dL_areItems_69 ?_
            refine gr_icmp_gt C 112 dL_areItems_70 (by decide) (fun c70_30 => ?_) (fun c70_30 => ?_)
            · exact kt19 (Or.inr (Or.inr c70_30))
            · exact kf19 (fun q0 => Or.elim q0 (fun r => r c54_28) (fun q1 => Or.elim q1 c60_29 c70_30))
  exact k12 n12 (0, 0, t1) h
def v_L_badOf (a0 : Int32) (a1 : Int32) (a2 : Int32) : Int32 := (if 0 ≤ (a0 - a1) then (if a2 = 0 then ((a0 - a1) * (a0 - a1)) else (((a0 - a1) * (a0 - a1)) / 4)) else ((1000000 : Int32) + ((a0 - a1) * (a0 - a1))))
set_option maxRecDepth 20000 in
theorem c_L_badOf (l : Launch) (D : va_G) (K : Nat → ClassId) (E0 b0 : Nat) (B : Nat × Nat) (a0 : Int32) (a1 : Int32) (a2 : Int32) (t : LwS) : MetR l yL_badOf (.code yL_badOf cL_badOf 4 (some .int)) 0 [.int a0, .int a1, .int a2] (fun r t' => r = v_L_badOf a0 a1 a2 ∧ t' = t) D K E0 b0 B t := by
  refine gr_start (by decide) rfl (Nat.le_of_ble_eq_true rfl) (fun p e s m args below meth c C E => ?_)
  refine gr_iloadn C 0 0 dL_badOf_0 rfl rfl ?_
  refine gr_iloadn C 1 1 dL_badOf_1 rfl rfl ?_
  refine gr_isub C dL_badOf_2 ?_
  refine gr_istoren C 3 [(3, .int (a0 - a1)), (0, .int a0), (1, .int a1), (2, .int a2)] dL_badOf_3 rfl (by decide) rfl ?_
  refine gr_iloadn C 0 3 dL_badOf_4 rfl rfl ?_
  refine gr_if_ge C 17 dL_badOf_5 (by decide) (fun c5_1 => ?_) (fun c5_1 => ?_)
  · refine gr_iloadn C 3 2 dL_badOf_17 rfl rfl ?_
    refine gr_if_eq C 29 dL_badOf_18 (by decide) (fun c18_2 => ?_) (fun c18_2 => ?_)
    · refine gr_iloadn C 0 3 dL_badOf_29 rfl rfl ?_
      refine gr_iloadn C 0 3 dL_badOf_30 rfl rfl ?_
      refine gr_imul C dL_badOf_31 ?_
      exact gr_iret C E dL_badOf_32 ⟨(((Eq.trans (if_pos c5_1) (if_pos c18_2))).symm), rfl⟩
    · refine gr_iloadn C 0 3 dL_badOf_21 rfl rfl ?_
      refine gr_iloadn C 0 3 dL_badOf_22 rfl rfl ?_
      refine gr_imul C dL_badOf_23 ?_
      refine gr_iconst C 4 dL_badOf_24 (by decide) ?_
      refine gr_idiv C dL_badOf_25 (by decide) ?_
      refine gr_goto C 32 dL_badOf_26 (by decide) ?_
      exact gr_iret C E dL_badOf_32 ⟨(((Eq.trans (if_pos c5_1) (if_neg c18_2))).symm), rfl⟩
  · refine gr_ldc C 1000000 v_i1018 dL_badOf_8 ?_
    refine gr_iloadn C 0 3 dL_badOf_10 rfl rfl ?_
    refine gr_iloadn C 0 3 dL_badOf_11 rfl rfl ?_
    refine gr_imul C dL_badOf_12 ?_
    refine gr_iadd C dL_badOf_13 ?_
    refine gr_goto C 32 dL_badOf_14 (by decide) ?_
    exact gr_iret C E dL_badOf_32 ⟨(((if_neg c5_1)).symm), rfl⟩
def w_L_areLines_L186 (B : Nat × Nat) (o : Nat) (a1 : Nat) (a2 : Int32) (Q : Int32 → LwS → Prop) (t1 : LwS) (r1 : Int32) (t4 : LwS) (r8 : Int32) (K186 : (Int32 × Int32 × LwS) → Prop) (z186 : Int32 × Int32 × LwS) : Prop := ((r8 ≤ z186.2.1) → (vp_in r1 (rN z186.2.2.2 (szC t4.1))) ∧ ∃ J362 : Int32 → LwS → Prop, (∀ x10 : Int32, ∀ t11 : LwS, J362 x10 t11 → ((gb x10) ∧ Q x10 t11)) ∧ ∃ J361 : LwS → Prop, (∀ t13 : LwS, J361 t13 → (J362 0 t13)) ∧ (((z186.1 = (rG z186.2.2.2 (szC t4.1) (Int32.toNatClampNeg r1))) → lcall B z186.2.2 (fun B1 K => w_L_badness B1 o a2 z186.2.2 K) (fun r14 t14 => ((r14 = z186.1) → lcall B t14 (fun B1 K => w_L_firstItem B1 o a2 r8 t14 K) (fun r15 t15 => ((r15 = (-1000001)) → lcall B t15 (fun B1 K => w_L_firstItem B1 o a2 (-1) t15 K) (fun r16 t16 => ((r16 = (-1000001)) → J362 1 t16) ∧ (¬ (r16 = (-1000001)) → J361 t16))) ∧ (¬ (r15 = (-1000001)) → J361 t15))) ∧ (¬ (r14 = z186.1) → J361 t14))) ∧ (¬ (z186.1 = (rG z186.2.2.2 (szC t4.1) (Int32.toNatClampNeg r1))) → J361 z186.2.2))) ∧ (¬ (r8 ≤ z186.2.1) → lcall B z186.2.2 (fun B1 K => w_L_firstItem B1 o a2 z186.2.1 z186.2.2 K) (fun r17 t17 => ∃ J224 : Int32 → LwS → Prop, (∀ x18 : Int32, ∀ t19 : LwS, J224 x18 t19 → (∃ J274 : Prop, (J274 → (Q 0 t19)) ∧ (((r17 < 0) → J274) ∧ (¬ (r17 < 0) → ((x18 ≤ r17) → J274) ∧ (¬ (x18 ≤ r17) → ∃ J248 : Prop, (J248 → (∃ J276 : Prop, (J276 → ((vp_in 1 (rN t19.2 a1)) ∧ (vp_in x18 (rN t19.2 (szC t1.1))) ∧ (vp_in r17 (rN t19.2 (szC t1.1))) ∧ ∀ x23 : Int32, x23 = (if x18 = r1 then 1 else 0) → ∀ x24 : Int32, x24 = (z186.1 + (v_L_badOf (rG t19.2 a1 (Int32.toNatClampNeg 1)) ((rG t19.2 (szC t1.1) (Int32.toNatClampNeg x18)) - (rG t19.2 (szC t1.1) (Int32.toNatClampNeg r17))) x23)) → K186 (x24, (z186.2.1 + 1), t19))) ∧ (((x18 ≤ (r17 + 1)) → J276) ∧ (¬ (x18 ≤ (r17 + 1)) → (vp_in x18 (rN t19.2 (szC t1.1))) ∧ (vp_in r17 (rN t19.2 (szC t1.1))) ∧ (vp_in 1 (rN t19.2 a1)) ∧ ((((rG t19.2 (szC t1.1) (Int32.toNatClampNeg x18)) - (rG t19.2 (szC t1.1) (Int32.toNatClampNeg r17))) ≤ (rG t19.2 a1 (Int32.toNatClampNeg 1))) → J276) ∧ (¬ (((rG t19.2 (szC t1.1) (Int32.toNatClampNeg x18)) - (rG t19.2 (szC t1.1) (Int32.toNatClampNeg r17))) ≤ (rG t19.2 a1 (Int32.toNatClampNeg 1))) → J274))))) ∧ (((z186.2.1 = 0) → ((r17 = 0) → J248) ∧ (¬ (r17 = 0) → J274)) ∧ (¬ (z186.2.1 = 0) → J248))))))) ∧ (((r8 ≤ (z186.2.1 + 1)) → J224 r1 t17) ∧ (¬ (r8 ≤ (z186.2.1 + 1)) → lcall B t17 (fun B1 K => w_L_firstItem B1 o a2 (z186.2.1 + 1) t17 K) (fun r28 t28 => J224 r28 t28)))))
def w_L_areLines_L72 (a1 : Nat) (t1 : LwS) (r1 : Int32) (t4 : LwS) (K56 : (Int32 × LwS) → Prop) (z56 : Int32 × LwS) (K72 : (Int32 × LwS) → Prop) (z72 : Int32 × LwS) : Prop := ((z56.1 ≤ z72.1) → K56 ((z56.1 + 1), z72.2)) ∧ (¬ (z56.1 ≤ z72.1) → (vp_in z56.1 (rN z72.2.2 (szC t1.1))) ∧ (vp_in z72.1 (rN z72.2.2 (szC t1.1))) ∧ ∀ x33 : Int32, x33 = ((rG z72.2.2 (szC t1.1) (Int32.toNatClampNeg z56.1)) - (rG z72.2.2 (szC t1.1) (Int32.toNatClampNeg z72.1))) → (vp_in z72.1 (rN z72.2.2 (szC t4.1))) ∧ (vp_in 1 (rN z72.2.2 a1)) ∧ ∀ x36 : Int32, x36 = (if z56.1 = r1 then 1 else 0) → ∀ x37 : Int32, x37 = ((rG z72.2.2 (szC t4.1) (Int32.toNatClampNeg z72.1)) + (v_L_badOf (rG z72.2.2 a1 (Int32.toNatClampNeg 1)) x33 x36)) → ((z72.1 = (z56.1 - 1)) → vp_in z56.1 (rN z72.2.2 (szC t4.1))) ∧ ((z72.1 = (z56.1 - 1)) → ((rG z72.2.2 (szC t4.1) (Int32.toNatClampNeg z56.1)) ≤ x37) → vp_in z56.1 (rN z72.2.2 (szC t4.1))) ∧ ((¬ (z72.1 = (z56.1 - 1))) → vp_in 1 (rN z72.2.2 a1)) ∧ ((¬ (z72.1 = (z56.1 - 1))) → ((rG z72.2.2 a1 (Int32.toNatClampNeg 1)) < x33) → vp_in z56.1 (rN z72.2.2 (szC t4.1))) ∧ ((¬ (z72.1 = (z56.1 - 1))) → (¬ ((rG z72.2.2 a1 (Int32.toNatClampNeg 1)) < x33)) → vp_in z56.1 (rN z72.2.2 (szC t4.1))) ∧ ((¬ (z72.1 = (z56.1 - 1))) → (¬ ((rG z72.2.2 a1 (Int32.toNatClampNeg 1)) < x33)) → ((rG z72.2.2 (szC t4.1) (Int32.toNatClampNeg z56.1)) ≤ x37) → vp_in z56.1 (rN z72.2.2 (szC t4.1))) ∧ ∀ x38 : Int32, x38 = (if ((z72.1 = (z56.1 - 1)) ∧ ((rG z72.2.2 (szC t4.1) (Int32.toNatClampNeg z56.1)) ≤ x37)) ∨ ((¬ (z72.1 = (z56.1 - 1))) ∧ (((rG z72.2.2 a1 (Int32.toNatClampNeg 1)) < x33) ∨ ((rG z72.2.2 (szC t4.1) (Int32.toNatClampNeg z56.1)) ≤ x37))) then (rG z72.2.2 (szC t4.1) (Int32.toNatClampNeg z56.1)) else x37) → (vp_in z56.1 (rN z72.2.2 (szC t4.1))) ∧ ∀ t46 : LwS, t46 = rSt z72.2 (szC t4.1) z56.1 x38 → K72 ((z72.1 + 1), t46))
def w_L_areLines_L56 (B : Nat × Nat) (o : Nat) (a1 : Nat) (a2 : Int32) (Q : Int32 → LwS → Prop) (t1 : LwS) (r1 : Int32) (t4 : LwS) (K56 : (Int32 × LwS) → Prop) (z56 : Int32 × LwS) : Prop := ((r1 < z56.1) → lcall B z56.2 (fun B1 K => w_L_lines B1 o a2 z56.2 K) (fun r8 t8 => ∃ n, lp (w_L_areLines_L186 B o a1 a2 Q t1 r1 t4 r8) n (0, 0, t8))) ∧ (¬ (r1 < z56.1) → (vp_in z56.1 (rN z56.2.2 (szC t4.1))) ∧ ∀ t30 : LwS, t30 = rSt z56.2 (szC t4.1) z56.1 1000000000 → ∃ n, lp (w_L_areLines_L72 a1 t1 r1 t4 K56 z56) n (0, t30))
def w_L_areLines_L21 (B : Nat × Nat) (o : Nat) (a1 : Nat) (a2 : Int32) (Q : Int32 → LwS → Prop) (t1 : LwS) (r1 : Int32) (t4 : LwS) (K21 : (Int32 × LwS) → Prop) (z21 : Int32 × LwS) : Prop := ((r1 ≤ z21.1) → ∃ n, lp (w_L_areLines_L56 B o a1 a2 Q t1 r1 t4) n (1, z21.2)) ∧ (¬ (r1 ≤ z21.1) → (vp_in z21.1 (rN z21.2.2 (szC t1.1))) ∧ lcall B z21.2 (fun B1 K => w_L_itemWidth B1 o a2 z21.1 z21.2 K) (fun r48 t48 => (vp_in (z21.1 + 1) (rN t48.2 (szC t1.1))) ∧ ∀ t50 : LwS, t50 = rSt t48 (szC t1.1) (z21.1 + 1) ((rG z21.2.2 (szC t1.1) (Int32.toNatClampNeg z21.1)) + r48) → K21 ((z21.1 + 1), t50)))
def w_L_areLines (B : Nat × Nat) (o : Nat) (a1 : Nat) (a2 : Int32) (t : LwS) (Q : Int32 → LwS → Prop) : Prop := lcall B t (fun B1 K => w_L_items B1 o a2 t K) (fun r1 t1 => (szC t1.1 + 1 ≤ B.1 ∧ nsC t1.1 + 25 ≤ B.2) ∧ ∀ _ : t1.2 (szC t1.1) = none, ∀ t4 : LwS, t4 = rNw t1 25 → (szC t4.1 + 1 ≤ B.1 ∧ nsC t4.1 + 25 ≤ B.2) ∧ ∀ _ : t4.2 (szC t4.1) = none, ∀ t7 : LwS, t7 = rNw t4 25 → ∃ n, lp (w_L_areLines_L21 B o a1 a2 Q t1 r1 t4) n (0, t7))
set_option maxRecDepth 20000 in
set_option maxHeartbeats 4000000 in
theorem c_L_areLines (l : Launch) (D : va_G) (K : Nat → ClassId) (E0 b0 : Nat) (B : Nat × Nat) (o : Nat) (a1 : Nat) (a2 : Int32) (t : LwS) (Q : Int32 → LwS → Prop) (h : w_L_areLines B o a1 a2 t Q) : MetR l yL_areLines (.code yL_areLines cL_areLines 11 (some .boolean)) 14 [.ref o, .ref a1, .int a2] Q D K E0 b0 B t := by
  unfold w_L_areLines at h
  refine gr_start (by decide) rfl (Nat.le_of_ble_eq_true rfl) (fun p e s m args below meth c C E => ?_)
  refine gr_aloadn C 0 0 dL_areLines_0 rfl rfl ?_
  refine gr_iloadn C 2 2 dL_areLines_1 rfl rfl ?_
  obtain ⟨B1, hB1, hR1, h⟩ := h
  refine gr_callW C (y := yL_items) (as := [.ref o, .int a2]) (by exact ⟨Nat.le_of_ble_eq_true rfl, Nat.le_of_ble_eq_true rfl⟩) B1 hB1 hR1 (c_L_items l D K E0 b0 B1 o a2 t _ h) hk_L_items rfl vs_L_208 kc_L_items dL_areLines_2 (Nat.le_of_ble_eq_true rfl) (fun r1 t1 h z1 z2 => ?_)
  have h := h z1 z2
  refine gr_istoren C 3 [(3, .int r1), (0, .ref o), (1, .ref a1), (2, .int a2)] dL_areLines_5 rfl (by decide) rfl ?_
  refine gr_bipush C 25 dL_areLines_6 (by decide) ?_
  obtain ⟨g2, h⟩ := h
  refine gr_newarr C (n := 25) (N := 25) v_i137 (by decide) (by decide +kernel) (by decide) g2 dL_areLines_8 (fun f3 => ?_)
  have h := h f3
  refine gr_nameS (fun t4 et4 => ?_)
  have h := h t4 et4
  refine gr_astore C [(4, .ref (szC t1.1)), (3, .int r1), (0, .ref o), (1, .ref a1), (2, .int a2)] dL_areLines_10 (by decide) rfl ?_
  refine gr_bipush C 25 dL_areLines_12 (by decide) ?_
  obtain ⟨g5, h⟩ := h
  refine gr_newarr C (n := 25) (N := 25) v_i137 (by decide) (by decide +kernel) (by decide) g5 dL_areLines_14 (fun f6 => ?_)
  have h := h f6
  refine gr_nameS (fun t7 et7 => ?_)
  have h := h t7 et7
  refine gr_astore C [(5, .ref (szC t4.1)), (4, .ref (szC t1.1)), (3, .int r1), (0, .ref o), (1, .ref a1), (2, .int a2)] dL_areLines_16 (by decide) rfl ?_
  refine gr_iconst C 0 dL_areLines_18 (by decide) ?_
  refine gr_istore C [(6, .int 0), (5, .ref (szC t4.1)), (4, .ref (szC t1.1)), (3, .int r1), (0, .ref o), (1, .ref a1), (2, .int a2)] dL_areLines_19 (by decide) rfl ?_
  refine gr_sub [4, 5, 6, 3, 2, 1, 0] rfl ?_
  obtain ⟨n21, h⟩ := h
  have k21 : ∀ (n21 : Nat) (z21 : Int32 × LwS), lp (w_L_areLines_L21 B o a1 a2 Q t1 r1 t4) n21 z21 → GR p l e (rmC 14 B t.1) s m args below meth c 11 D K E0 B b0 (gr_Q below D K E0 b0 Q args s (rmC 14 B t.1)) z21.2 21 [(0, .ref o), (1, .ref a1), (2, .int a2), (3, .int r1), (4, .ref (szC t1.1)), (5, .ref (szC t4.1)), (6, .int z21.1)] [] := by
    intro n21
    induction n21 with
    | zero => intro z21 h; exact h.elim
    | succ n21 ih21 =>
      intro z21 h
      have h : w_L_areLines_L21 B o a1 a2 Q t1 r1 t4 (lp (w_L_areLines_L21 B o a1 a2 Q t1 r1 t4) n21) z21 := h
      unfold w_L_areLines_L21 at h
      refine gr_iload C 6 dL_areLines_21 rfl ?_
      refine gr_iloadn C 3 3 dL_areLines_23 rfl rfl ?_
      refine gr_icmp_ge C 53 dL_areLines_24 (by decide) (fun c24_1 => ?_) (fun c24_1 => ?_)
      · have h := h.1 c24_1
        refine gr_iconst C 1 dL_areLines_53 (by decide) ?_
        refine gr_istore C [(6, .int 1), (0, .ref o), (1, .ref a1), (2, .int a2), (3, .int r1), (4, .ref (szC t1.1)), (5, .ref (szC t4.1))] dL_areLines_54 (by decide) rfl ?_
        refine gr_sub [1, 2, 3, 4, 5, 6, 0] rfl ?_
        obtain ⟨n56, h⟩ := h
        have k56 : ∀ (n56 : Nat) (z56 : Int32 × LwS), lp (w_L_areLines_L56 B o a1 a2 Q t1 r1 t4) n56 z56 → GR p l e (rmC 14 B t.1) s m args below meth c 11 D K E0 B b0 (gr_Q below D K E0 b0 Q args s (rmC 14 B t.1)) z56.2 56 [(0, .ref o), (1, .ref a1), (2, .int a2), (3, .int r1), (4, .ref (szC t1.1)), (5, .ref (szC t4.1)), (6, .int z56.1)] [] := by
          intro n56
          induction n56 with
          | zero => intro z56 h; exact h.elim
          | succ n56 ih56 =>
            intro z56 h
            have h : w_L_areLines_L56 B o a1 a2 Q t1 r1 t4 (lp (w_L_areLines_L56 B o a1 a2 Q t1 r1 t4) n56) z56 := h
            unfold w_L_areLines_L56 at h
            refine gr_iload C 6 dL_areLines_56 rfl ?_
            refine gr_iloadn C 3 3 dL_areLines_58 rfl rfl ?_
            refine gr_icmp_gt C 173 dL_areLines_59 (by decide) (fun c59_2 => ?_) (fun c59_2 => ?_)
            · have h := h.1 c59_2
              refine gr_iconst C 0 dL_areLines_173 (by decide) ?_
              refine gr_istore C [(6, .int 0), (0, .ref o), (1, .ref a1), (2, .int a2), (3, .int r1), (4, .ref (szC t1.1)), (5, .ref (szC t4.1))] dL_areLines_174 (by decide) rfl ?_
              refine gr_aloadn C 1 0 dL_areLines_176 rfl rfl ?_
              refine gr_iloadn C 3 2 dL_areLines_177 rfl rfl ?_
              obtain ⟨B8, hB8, hR8, h⟩ := h
              refine gr_callW C (y := yL_lines) (as := [.ref o, .int a2]) (by exact ⟨Nat.le_of_ble_eq_true rfl, Nat.le_of_ble_eq_true rfl⟩) B8 hB8 hR8 (c_L_lines l D K E0 b0 B8 o a2 z56.2 _ h) hk_L_lines rfl vs_L_244 kc_L_lines dL_areLines_178 (Nat.le_of_ble_eq_true rfl) (fun r8 t8 h z1 z2 => ?_)
              have h := h z1 z2
              refine gr_istore C [(7, .int r8), (6, .int 0), (0, .ref o), (1, .ref a1), (2, .int a2), (3, .int r1), (4, .ref (szC t1.1)), (5, .ref (szC t4.1))] dL_areLines_181 (by decide) rfl ?_
              refine gr_iconst C 0 dL_areLines_183 (by decide) ?_
              refine gr_istore C [(8, .int 0), (7, .int r8), (6, .int 0), (0, .ref o), (1, .ref a1), (2, .int a2), (3, .int r1), (4, .ref (szC t1.1)), (5, .ref (szC t4.1))] dL_areLines_184 (by decide) rfl ?_
              refine gr_sub [3, 4, 5, 6, 7, 8, 2, 1, 0] rfl ?_
              obtain ⟨n186, h⟩ := h
              have k186 : ∀ (n186 : Nat) (z186 : Int32 × Int32 × LwS), lp (w_L_areLines_L186 B o a1 a2 Q t1 r1 t4 r8) n186 z186 → GR p l e (rmC 14 B t.1) s m args below meth c 11 D K E0 B b0 (gr_Q below D K E0 b0 Q args s (rmC 14 B t.1)) z186.2.2 186 [(0, .ref o), (1, .ref a1), (2, .int a2), (3, .int r1), (4, .ref (szC t1.1)), (5, .ref (szC t4.1)), (6, .int z186.1), (7, .int r8), (8, .int z186.2.1)] [] := by
                intro n186
                induction n186 with
                | zero => intro z186 h; exact h.elim
                | succ n186 ih186 =>
                  intro z186 h
                  have h : w_L_areLines_L186 B o a1 a2 Q t1 r1 t4 r8 (lp (w_L_areLines_L186 B o a1 a2 Q t1 r1 t4 r8) n186) z186 := h
                  unfold w_L_areLines_L186 at h
                  refine gr_iload C 8 dL_areLines_186 rfl ?_
                  refine gr_iload C 7 dL_areLines_188 rfl ?_
                  refine gr_icmp_ge C 315 dL_areLines_190 (by decide) (fun c190_3 => ?_) (fun c190_3 => ?_)
                  · have h := h.1 c190_3
                    refine gr_iload C 6 dL_areLines_315 rfl ?_
                    refine gr_aload C 5 dL_areLines_317 rfl ?_
                    refine gr_iloadn C 3 3 dL_areLines_319 rfl rfl ?_
                    obtain ⟨g9, h⟩ := h
                    refine gr_iald C g9 dL_areLines_320 ?_
                    obtain ⟨J362, hJ362, h⟩ := h
                    have k362 : ∀ x10 : Int32, ∀ t11 : LwS, J362 x10 t11 → GR p l e (rmC 14 B t.1) s m args below meth c 11 D K E0 B b0 (gr_Q below D K E0 b0 Q args s (rmC 14 B t.1)) t11 362 [] [.int x10] := by
                      intro x10 t11 h
                      have h := hJ362 x10 t11 h
                      obtain ⟨g12, h⟩ := h
                      exact gr_zret C E g12 dL_areLines_362 h
                    obtain ⟨J361, hJ361, h⟩ := h
                    have k361 : ∀ t13 : LwS, J361 t13 → GR p l e (rmC 14 B t.1) s m args below meth c 11 D K E0 B b0 (gr_Q below D K E0 b0 Q args s (rmC 14 B t.1)) t13 361 [] [] := by
                      intro t13 h
                      have h := hJ361 t13 h
                      refine gr_iconst C 0 dL_areLines_361 (by decide) ?_
                      exact k362 0 t13 h
                    refine gr_icmp_ne C 361 dL_areLines_321 (by decide) (fun c321_4 => ?_) (fun c321_4 => ?_)
                    · have h := h.2 c321_4
                      refine gr_sub [] rfl ?_
                      exact k361 z186.2.2 h
                    · have h := h.1 c321_4
                      refine gr_aloadn C 0 0 dL_areLines_324 rfl rfl ?_
                      refine gr_iloadn C 2 2 dL_areLines_325 rfl rfl ?_
                      obtain ⟨B14, hB14, hR14, h⟩ := h
                      refine gr_callW C (y := yL_badness) (as := [.ref o, .int a2]) (by exact ⟨Nat.le_of_ble_eq_true rfl, Nat.le_of_ble_eq_true rfl⟩) B14 hB14 hR14 (c_L_badness l D K E0 b0 B14 o a2 z186.2.2 _ h) hk_L_badness rfl vs_L_248 kc_L_badness dL_areLines_326 (Nat.le_of_ble_eq_true rfl) (fun r14 t14 h z1 z2 => ?_)
                      have h := h z1 z2
                      refine gr_iload C 6 dL_areLines_329 rfl ?_
                      refine gr_icmp_ne C 361 dL_areLines_331 (by decide) (fun c331_5 => ?_) (fun c331_5 => ?_)
                      · have h := h.2 c331_5
                        refine gr_sub [] rfl ?_
                        exact k361 t14 h
                      · have h := h.1 c331_5
                        refine gr_aloadn C 0 0 dL_areLines_334 rfl rfl ?_
                        refine gr_iloadn C 2 2 dL_areLines_335 rfl rfl ?_
                        refine gr_iload C 7 dL_areLines_336 rfl ?_
                        obtain ⟨B15, hB15, hR15, h⟩ := h
                        refine gr_callW C (y := yL_firstItem) (as := [.ref o, .int a2, .int r8]) (by exact ⟨Nat.le_of_ble_eq_true rfl, Nat.le_of_ble_eq_true rfl⟩) B15 hB15 hR15 (c_L_firstItem l D K E0 b0 B15 o a2 r8 t14 _ h) hk_L_firstItem rfl vs_L_246 kc_L_firstItem dL_areLines_338 (Nat.le_of_ble_eq_true rfl) (fun r15 t15 h z1 z2 => ?_)
                        have h := h z1 z2
                        refine gr_ldc C (-1000001) v_i533 dL_areLines_341 ?_
                        refine gr_icmp_ne C 361 dL_areLines_343 (by decide) (fun c343_6 => ?_) (fun c343_6 => ?_)
                        · have h := h.2 c343_6
                          refine gr_sub [] rfl ?_
                          exact k361 t15 h
                        · have h := h.1 c343_6
                          refine gr_aloadn C 0 0 dL_areLines_346 rfl rfl ?_
                          refine gr_iloadn C 2 2 dL_areLines_347 rfl rfl ?_
                          refine gr_iconst C (-1) dL_areLines_348 (by decide) ?_
                          obtain ⟨B16, hB16, hR16, h⟩ := h
                          refine gr_callW C (y := yL_firstItem) (as := [.ref o, .int a2, .int (-1)]) (by exact ⟨Nat.le_of_ble_eq_true rfl, Nat.le_of_ble_eq_true rfl⟩) B16 hB16 hR16 (c_L_firstItem l D K E0 b0 B16 o a2 (-1) t15 _ h) hk_L_firstItem rfl vs_L_246 kc_L_firstItem dL_areLines_349 (Nat.le_of_ble_eq_true rfl) (fun r16 t16 h z1 z2 => ?_)
                          have h := h z1 z2
                          refine gr_ldc C (-1000001) v_i533 dL_areLines_352 ?_
                          refine gr_icmp_ne C 361 dL_areLines_354 (by decide) (fun c354_7 => ?_) (fun c354_7 => ?_)
                          · have h := h.2 c354_7
                            refine gr_sub [] rfl ?_
                            exact k361 t16 h
                          · have h := h.1 c354_7
                            refine gr_iconst C 1 dL_areLines_357 (by decide) ?_
                            refine gr_goto C 362 dL_areLines_358 (by decide) ?_
                            refine gr_sub [] rfl ?_
                            exact k362 1 t16 h
                  · have h := h.2 c190_3
                    refine gr_aloadn C 0 0 dL_areLines_193 rfl rfl ?_
                    refine gr_iloadn C 2 2 dL_areLines_194 rfl rfl ?_
                    refine gr_iload C 8 dL_areLines_195 rfl ?_
                    obtain ⟨B17, hB17, hR17, h⟩ := h
                    refine gr_callW C (y := yL_firstItem) (as := [.ref o, .int a2, .int z186.2.1]) (by exact ⟨Nat.le_of_ble_eq_true rfl, Nat.le_of_ble_eq_true rfl⟩) B17 hB17 hR17 (c_L_firstItem l D K E0 b0 B17 o a2 z186.2.1 z186.2.2 _ h) hk_L_firstItem rfl vs_L_246 kc_L_firstItem dL_areLines_197 (Nat.le_of_ble_eq_true rfl) (fun r17 t17 h z1 z2 => ?_)
                    have h := h z1 z2
                    refine gr_istore C [(9, .int r17), (0, .ref o), (1, .ref a1), (2, .int a2), (3, .int r1), (4, .ref (szC t1.1)), (5, .ref (szC t4.1)), (6, .int z186.1), (7, .int r8), (8, .int z186.2.1)] dL_areLines_200 (by decide) rfl ?_
                    refine gr_iload C 9 dL_areLines_202 rfl ?_
                    refine gr_iconst C 1 dL_areLines_204 (by decide) ?_
                    refine gr_iadd C dL_areLines_205 ?_
                    refine gr_iload C 8 dL_areLines_206 rfl ?_
                    obtain ⟨J224, hJ224, h⟩ := h
                    have k224 : ∀ x18 : Int32, ∀ t19 : LwS, J224 x18 t19 → GR p l e (rmC 14 B t.1) s m args below meth c 11 D K E0 B b0 (gr_Q below D K E0 b0 Q args s (rmC 14 B t.1)) t19 224 [(0, .ref o), (1, .ref a1), (2, .int a2), (3, .int r1), (4, .ref (szC t1.1)), (5, .ref (szC t4.1)), (6, .int z186.1), (7, .int r8), (8, .int z186.2.1), (9, .int r17)] [.int x18] := by
                      intro x18 t19 h
                      have h := hJ224 x18 t19 h
                      refine gr_istore C [(10, .int x18), (0, .ref o), (1, .ref a1), (2, .int a2), (3, .int r1), (4, .ref (szC t1.1)), (5, .ref (szC t4.1)), (6, .int z186.1), (7, .int r8), (8, .int z186.2.1), (9, .int r17)] dL_areLines_224 (by decide) rfl ?_
                      refine gr_iload C 10 dL_areLines_226 rfl ?_
                      obtain ⟨J274, hJ274, h⟩ := h
                      have k274 : J274 → GR p l e (rmC 14 B t.1) s m args below meth c 11 D K E0 B b0 (gr_Q below D K E0 b0 Q args s (rmC 14 B t.1)) t19 274 [] [] := by
                        intro  h
                        have h := hJ274 h
                        refine gr_iconst C 0 dL_areLines_274 (by decide) ?_
                        exact gr_zret C E (Or.inl rfl) dL_areLines_275 h
                      refine gr_if_lt C 274 dL_areLines_228 (by decide) (fun c228_8 => ?_) (fun c228_8 => ?_)
                      · have h := h.1 c228_8
                        refine gr_sub [] rfl ?_
                        exact k274 h
                      · have h := h.2 c228_8
                        refine gr_iload C 0 dL_areLines_231 rfl ?_
                        refine gr_iload C 10 dL_areLines_233 rfl ?_
                        refine gr_icmp_le C 274 dL_areLines_235 (by decide) (fun c235_9 => ?_) (fun c235_9 => ?_)
                        · have h := h.1 c235_9
                          refine gr_sub [] rfl ?_
                          exact k274 h
                        · have h := h.2 c235_9
                          refine gr_iload C 9 dL_areLines_238 rfl ?_
                          obtain ⟨J248, hJ248, h⟩ := h
                          have k248 : J248 → GR p l e (rmC 14 B t.1) s m args below meth c 11 D K E0 B b0 (gr_Q below D K E0 b0 Q args s (rmC 14 B t.1)) t19 248 [(0, .ref o), (1, .ref a1), (2, .int a2), (3, .int r1), (4, .ref (szC t1.1)), (5, .ref (szC t4.1)), (6, .int z186.1), (7, .int r8), (8, .int z186.2.1), (9, .int r17), (10, .int x18)] [] := by
                            intro  h
                            have h := hJ248 h
                            refine gr_iload C 10 dL_areLines_248 rfl ?_
                            refine gr_iload C 9 dL_areLines_250 rfl ?_
                            refine gr_iconst C 1 dL_areLines_252 (by decide) ?_
                            refine gr_iadd C dL_areLines_253 ?_
                            obtain ⟨J276, hJ276, h⟩ := h
                            have k276 : J276 → GR p l e (rmC 14 B t.1) s m args below meth c 11 D K E0 B b0 (gr_Q below D K E0 b0 Q args s (rmC 14 B t.1)) t19 276 [(0, .ref o), (1, .ref a1), (2, .int a2), (3, .int r1), (4, .ref (szC t1.1)), (5, .ref (szC t4.1)), (6, .int z186.1), (7, .int r8), (8, .int z186.2.1), (9, .int r17), (10, .int x18)] [] := by
                              intro  h
                              have h := hJ276 h
                              refine gr_iload C 6 dL_areLines_276 rfl ?_
                              refine gr_aloadn C 1 1 dL_areLines_278 rfl rfl ?_
                              refine gr_iconst C 1 dL_areLines_279 (by decide) ?_
                              obtain ⟨g20, h⟩ := h
                              refine gr_iald C g20 dL_areLines_280 ?_
                              refine gr_aload C 4 dL_areLines_281 rfl ?_
                              refine gr_iload C 10 dL_areLines_283 rfl ?_
                              obtain ⟨g21, h⟩ := h
                              refine gr_iald C g21 dL_areLines_285 ?_
                              refine gr_aload C 4 dL_areLines_286 rfl ?_
                              refine gr_iload C 9 dL_areLines_288 rfl ?_
                              obtain ⟨g22, h⟩ := h
                              refine gr_iald C g22 dL_areLines_290 ?_
                              refine gr_isub C dL_areLines_291 ?_
                              refine gr_iload C 10 dL_areLines_292 rfl ?_
                              refine gr_iloadn C 3 3 dL_areLines_294 rfl rfl ?_
                              have k303 : ∀ x23 : Int32, x23 = (if x18 = r1 then 1 else 0) → GR p l e (rmC 14 B t.1) s m args below meth c 11 D K E0 B b0 (gr_Q below D K E0 b0 Q args s (rmC 14 B t.1)) t19 303 [(0, .ref o), (1, .ref a1), (2, .int a2), (3, .int r1), (4, .ref (szC t1.1)), (5, .ref (szC t4.1)), (7, .int r8), (8, .int z186.2.1)] [.int x23, .int ((rG t19.2 (szC t1.1) (Int32.toNatClampNeg x18)) - (rG t19.2 (szC t1.1) (Int32.toNatClampNeg r17))), .int (rG t19.2 a1 (Int32.toNatClampNeg 1)), .int z186.1] := by
                                intro x23 ex23
                                have h := h x23 ex23
                                refine gr_callP C (y := yL_badOf) (as := [.int (rG t19.2 a1 (Int32.toNatClampNeg 1)), .int ((rG t19.2 (szC t1.1) (Int32.toNatClampNeg x18)) - (rG t19.2 (szC t1.1) (Int32.toNatClampNeg r17))), .int x23]) (by exact ⟨Nat.le_of_ble_eq_true rfl, Nat.le_of_ble_eq_true rfl⟩) (fun B1 => c_L_badOf l D K E0 b0 B1 (rG t19.2 a1 (Int32.toNatClampNeg 1)) ((rG t19.2 (szC t1.1) (Int32.toNatClampNeg x18)) - (rG t19.2 (szC t1.1) (Int32.toNatClampNeg r17))) x23 t19) hk_L_badOf rfl vs_L_240 kc_L_badOf dL_areLines_303 (Nat.le_of_ble_eq_true rfl) ?_
                                refine gr_iadd C dL_areLines_306 ?_
                                refine gr_nameI (fun x24 ex24 => ?_)
                                have h := h x24 ex24
                                refine gr_istore C [(6, .int x24), (0, .ref o), (1, .ref a1), (2, .int a2), (3, .int r1), (4, .ref (szC t1.1)), (5, .ref (szC t4.1)), (7, .int r8), (8, .int z186.2.1)] dL_areLines_307 (by decide) rfl ?_
                                refine gr_iinc C 8 (z186.2.1 + 1) [(8, .int (z186.2.1 + 1)), (6, .int x24), (0, .ref o), (1, .ref a1), (2, .int a2), (3, .int r1), (4, .ref (szC t1.1)), (5, .ref (szC t4.1)), (7, .int r8)] dL_areLines_309 rfl rfl (by decide) rfl ?_
                                refine gr_goto C 186 dL_areLines_312 (by decide) ?_
                                refine gr_sub [2, 3, 4, 5, 6, 7, 1, 8, 0] rfl ?_
                                have h9 := ih186 (x24, (z186.2.1 + 1), t19) h
                                exact h9
                              refine gr_icmp_ne C 302 dL_areLines_295 (by decide) (fun c295_10 => ?_) (fun c295_10 => ?_)
                              · refine gr_iconst C 0 dL_areLines_302 (by decide) ?_
                                refine gr_sub [0, 1, 2, 3, 4, 5, 7, 8] rfl ?_
                                exact k303 _ ((if_neg c295_10).symm)
                              · refine gr_iconst C 1 dL_areLines_298 (by decide) ?_
                                refine gr_goto C 303 dL_areLines_299 (by decide) ?_
                                refine gr_sub [0, 1, 2, 3, 4, 5, 7, 8] rfl ?_
                                exact k303 _ ((if_pos c295_10).symm)
                            refine gr_icmp_le C 276 dL_areLines_254 (by decide) (fun c254_11 => ?_) (fun c254_11 => ?_)
                            · have h := h.1 c254_11
                              exact k276 h
                            · have h := h.2 c254_11
                              refine gr_aload C 4 dL_areLines_257 rfl ?_
                              refine gr_iload C 10 dL_areLines_259 rfl ?_
                              obtain ⟨g25, h⟩ := h
                              refine gr_iald C g25 dL_areLines_261 ?_
                              refine gr_aload C 4 dL_areLines_262 rfl ?_
                              refine gr_iload C 9 dL_areLines_264 rfl ?_
                              obtain ⟨g26, h⟩ := h
                              refine gr_iald C g26 dL_areLines_266 ?_
                              refine gr_isub C dL_areLines_267 ?_
                              refine gr_aloadn C 1 1 dL_areLines_268 rfl rfl ?_
                              refine gr_iconst C 1 dL_areLines_269 (by decide) ?_
                              obtain ⟨g27, h⟩ := h
                              refine gr_iald C g27 dL_areLines_270 ?_
                              refine gr_icmp_le C 276 dL_areLines_271 (by decide) (fun c271_12 => ?_) (fun c271_12 => ?_)
                              · have h := h.1 c271_12
                                exact k276 h
                              · have h := h.2 c271_12
                                refine gr_sub [] rfl ?_
                                exact k274 h
                          refine gr_if_ne C 248 dL_areLines_240 (by decide) (fun c240_13 => ?_) (fun c240_13 => ?_)
                          · have h := h.2 c240_13
                            refine gr_sub [1, 2, 3, 4, 5, 6, 7, 8, 9, 10, 0] rfl ?_
                            exact k248 h
                          · have h := h.1 c240_13
                            refine gr_iload C 10 dL_areLines_243 rfl ?_
                            refine gr_if_ne C 274 dL_areLines_245 (by decide) (fun c245_14 => ?_) (fun c245_14 => ?_)
                            · have h := h.2 c245_14
                              refine gr_sub [] rfl ?_
                              exact k274 h
                            · have h := h.1 c245_14
                              refine gr_sub [1, 2, 3, 4, 5, 6, 7, 8, 9, 10, 0] rfl ?_
                              exact k248 h
                    refine gr_icmp_ge C 223 dL_areLines_208 (by decide) (fun c208_15 => ?_) (fun c208_15 => ?_)
                    · have h := h.1 c208_15
                      refine gr_iloadn C 4 3 dL_areLines_223 rfl rfl ?_
                      refine gr_sub [1, 2, 3, 4, 5, 6, 7, 8, 9, 0] rfl ?_
                      exact k224 r1 t17 h
                    · have h := h.2 c208_15
                      refine gr_aloadn C 1 0 dL_areLines_211 rfl rfl ?_
                      refine gr_iloadn C 3 2 dL_areLines_212 rfl rfl ?_
                      refine gr_iload C 9 dL_areLines_213 rfl ?_
                      refine gr_iconst C 1 dL_areLines_215 (by decide) ?_
                      refine gr_iadd C dL_areLines_216 ?_
                      obtain ⟨B28, hB28, hR28, h⟩ := h
                      refine gr_callW C (y := yL_firstItem) (as := [.ref o, .int a2, .int (z186.2.1 + 1)]) (by exact ⟨Nat.le_of_ble_eq_true rfl, Nat.le_of_ble_eq_true rfl⟩) B28 hB28 hR28 (c_L_firstItem l D K E0 b0 B28 o a2 (z186.2.1 + 1) t17 _ h) hk_L_firstItem rfl vs_L_246 kc_L_firstItem dL_areLines_217 (Nat.le_of_ble_eq_true rfl) (fun r28 t28 h z1 z2 => ?_)
                      have h := h z1 z2
                      refine gr_goto C 224 dL_areLines_220 (by decide) ?_
                      refine gr_sub [1, 2, 3, 4, 5, 6, 7, 8, 9, 0] rfl ?_
                      exact k224 r28 t28 h
              exact k186 n186 (0, 0, t8) h
            · have h := h.2 c59_2
              refine gr_aload C 5 dL_areLines_62 rfl ?_
              refine gr_iload C 6 dL_areLines_64 rfl ?_
              refine gr_ldc C 1000000000 v_i1014 dL_areLines_66 ?_
              obtain ⟨g29, h⟩ := h
              refine gr_iast C g29 dL_areLines_68 ?_
              refine gr_nameS (fun t30 et30 => ?_)
              have h := h t30 et30
              refine gr_iconst C 0 dL_areLines_69 (by decide) ?_
              refine gr_istore C [(7, .int 0), (0, .ref o), (1, .ref a1), (2, .int a2), (3, .int r1), (4, .ref (szC t1.1)), (5, .ref (szC t4.1)), (6, .int z56.1)] dL_areLines_70 (by decide) rfl ?_
              refine gr_sub [1, 2, 3, 4, 5, 6, 7, 0] rfl ?_
              obtain ⟨n72, h⟩ := h
              have k72 : ∀ (n72 : Nat) (z72 : Int32 × LwS), lp (w_L_areLines_L72 a1 t1 r1 t4 (lp (w_L_areLines_L56 B o a1 a2 Q t1 r1 t4) n56) z56) n72 z72 → GR p l e (rmC 14 B t.1) s m args below meth c 11 D K E0 B b0 (gr_Q below D K E0 b0 Q args s (rmC 14 B t.1)) z72.2 72 [(0, .ref o), (1, .ref a1), (2, .int a2), (3, .int r1), (4, .ref (szC t1.1)), (5, .ref (szC t4.1)), (6, .int z56.1), (7, .int z72.1)] [] := by
                intro n72
                induction n72 with
                | zero => intro z72 h; exact h.elim
                | succ n72 ih72 =>
                  intro z72 h
                  have h : w_L_areLines_L72 a1 t1 r1 t4 (lp (w_L_areLines_L56 B o a1 a2 Q t1 r1 t4) n56) z56 (lp (w_L_areLines_L72 a1 t1 r1 t4 (lp (w_L_areLines_L56 B o a1 a2 Q t1 r1 t4) n56) z56) n72) z72 := h
                  unfold w_L_areLines_L72 at h
                  refine gr_iload C 7 dL_areLines_72 rfl ?_
                  refine gr_iload C 6 dL_areLines_74 rfl ?_
                  refine gr_icmp_ge C 167 dL_areLines_76 (by decide) (fun c76_16 => ?_) (fun c76_16 => ?_)
                  · have h := h.1 c76_16
                    refine gr_iinc C 6 (z56.1 + 1) [(6, .int (z56.1 + 1)), (0, .ref o), (1, .ref a1), (2, .int a2), (3, .int r1), (4, .ref (szC t1.1)), (5, .ref (szC t4.1)), (7, .int z72.1)] dL_areLines_167 rfl rfl (by decide) rfl ?_
                    refine gr_goto C 56 dL_areLines_170 (by decide) ?_
                    refine gr_sub [1, 2, 3, 4, 5, 6, 0] rfl ?_
                    have h9 := ih56 ((z56.1 + 1), z72.2) h
                    exact h9
                  · have h := h.2 c76_16
                    refine gr_aload C 4 dL_areLines_79 rfl ?_
                    refine gr_iload C 6 dL_areLines_81 rfl ?_
                    obtain ⟨g31, h⟩ := h
                    refine gr_iald C g31 dL_areLines_83 ?_
                    refine gr_aload C 4 dL_areLines_84 rfl ?_
                    refine gr_iload C 7 dL_areLines_86 rfl ?_
                    obtain ⟨g32, h⟩ := h
                    refine gr_iald C g32 dL_areLines_88 ?_
                    refine gr_isub C dL_areLines_89 ?_
                    refine gr_nameI (fun x33 ex33 => ?_)
                    have h := h x33 ex33
                    refine gr_istore C [(8, .int x33), (0, .ref o), (1, .ref a1), (2, .int a2), (3, .int r1), (4, .ref (szC t1.1)), (5, .ref (szC t4.1)), (6, .int z56.1), (7, .int z72.1)] dL_areLines_90 (by decide) rfl ?_
                    refine gr_aload C 6 dL_areLines_92 rfl ?_
                    refine gr_iload C 8 dL_areLines_94 rfl ?_
                    obtain ⟨g34, h⟩ := h
                    refine gr_iald C g34 dL_areLines_96 ?_
                    refine gr_aloadn C 2 1 dL_areLines_97 rfl rfl ?_
                    refine gr_iconst C 1 dL_areLines_98 (by decide) ?_
                    obtain ⟨g35, h⟩ := h
                    refine gr_iald C g35 dL_areLines_99 ?_
                    refine gr_iload C 0 dL_areLines_100 rfl ?_
                    refine gr_iload C 7 dL_areLines_102 rfl ?_
                    refine gr_iloadn C 4 3 dL_areLines_104 rfl rfl ?_
                    have k113 : ∀ x36 : Int32, x36 = (if z56.1 = r1 then 1 else 0) → GR p l e (rmC 14 B t.1) s m args below meth c 11 D K E0 B b0 (gr_Q below D K E0 b0 Q args s (rmC 14 B t.1)) z72.2 113 [(0, .ref o), (1, .ref a1), (2, .int a2), (3, .int r1), (4, .ref (szC t1.1)), (5, .ref (szC t4.1)), (6, .int z56.1), (7, .int z72.1), (8, .int x33)] [.int x36, .int x33, .int (rG z72.2.2 a1 (Int32.toNatClampNeg 1)), .int (rG z72.2.2 (szC t4.1) (Int32.toNatClampNeg z72.1))] := by
                      intro x36 ex36
                      have h := h x36 ex36
                      refine gr_callP C (y := yL_badOf) (as := [.int (rG z72.2.2 a1 (Int32.toNatClampNeg 1)), .int x33, .int x36]) (by exact ⟨Nat.le_of_ble_eq_true rfl, Nat.le_of_ble_eq_true rfl⟩) (fun B1 => c_L_badOf l D K E0 b0 B1 (rG z72.2.2 a1 (Int32.toNatClampNeg 1)) x33 x36 z72.2) hk_L_badOf rfl vs_L_240 kc_L_badOf dL_areLines_113 (Nat.le_of_ble_eq_true rfl) ?_
                      refine gr_iadd C dL_areLines_116 ?_
                      refine gr_nameI (fun x37 ex37 => ?_)
                      have h := h x37 ex37
                      refine gr_istore C [(9, .int x37), (0, .ref o), (1, .ref a1), (2, .int a2), (3, .int r1), (4, .ref (szC t1.1)), (5, .ref (szC t4.1)), (6, .int z56.1), (7, .int z72.1), (8, .int x33)] dL_areLines_117 (by decide) rfl ?_
                      refine gr_aload C 6 dL_areLines_119 rfl ?_
                      refine gr_iload C 7 dL_areLines_121 rfl ?_
                      refine gr_iload C 8 dL_areLines_123 rfl ?_
                      refine gr_iload C 7 dL_areLines_125 rfl ?_
                      refine gr_iconst C 1 dL_areLines_127 (by decide) ?_
                      refine gr_isub C dL_areLines_128 ?_
                      obtain ⟨g39, h⟩ := h
                      obtain ⟨g40, h⟩ := h
                      obtain ⟨g41, h⟩ := h
                      obtain ⟨g42, h⟩ := h
                      obtain ⟨g43, h⟩ := h
                      obtain ⟨g44, h⟩ := h
                      have k160 : ∀ x38 : Int32, x38 = (if ((z72.1 = (z56.1 - 1)) ∧ ((rG z72.2.2 (szC t4.1) (Int32.toNatClampNeg z56.1)) ≤ x37)) ∨ ((¬ (z72.1 = (z56.1 - 1))) ∧ (((rG z72.2.2 a1 (Int32.toNatClampNeg 1)) < x33) ∨ ((rG z72.2.2 (szC t4.1) (Int32.toNatClampNeg z56.1)) ≤ x37))) then (rG z72.2.2 (szC t4.1) (Int32.toNatClampNeg z56.1)) else x37) → GR p l e (rmC 14 B t.1) s m args below meth c 11 D K E0 B b0 (gr_Q below D K E0 b0 Q args s (rmC 14 B t.1)) z72.2 160 [(0, .ref o), (1, .ref a1), (2, .int a2), (3, .int r1), (4, .ref (szC t1.1)), (5, .ref (szC t4.1)), (6, .int z56.1), (7, .int z72.1)] [.int x38, .int z56.1, .ref (szC t4.1)] := by
                        intro x38 ex38
                        have h := h x38 ex38
                        obtain ⟨g45, h⟩ := h
                        refine gr_iast C g45 dL_areLines_160 ?_
                        refine gr_nameS (fun t46 et46 => ?_)
                        have h := h t46 et46
                        refine gr_iinc C 7 (z72.1 + 1) [(7, .int (z72.1 + 1)), (0, .ref o), (1, .ref a1), (2, .int a2), (3, .int r1), (4, .ref (szC t1.1)), (5, .ref (szC t4.1)), (6, .int z56.1)] dL_areLines_161 rfl rfl (by decide) rfl ?_
                        refine gr_goto C 72 dL_areLines_164 (by decide) ?_
                        refine gr_sub [1, 2, 3, 4, 5, 6, 7, 0] rfl ?_
                        have h9 := ih72 ((z72.1 + 1), t46) h
                        exact h9
                      refine gr_icmp_eq C 140 dL_areLines_129 (by decide) (fun c129_18 => ?_) (fun c129_18 => ?_)
                      · refine gr_iload C 0 dL_areLines_140 rfl ?_
                        refine gr_aload C 6 dL_areLines_142 rfl ?_
                        refine gr_iload C 7 dL_areLines_144 rfl ?_
                        refine gr_iald C (g39 c129_18) dL_areLines_146 ?_
                        refine gr_icmp_ge C 155 dL_areLines_147 (by decide) (fun c147_19 => ?_) (fun c147_19 => ?_)
                        · refine gr_aload C 6 dL_areLines_155 rfl ?_
                          refine gr_iload C 7 dL_areLines_157 rfl ?_
                          refine gr_iald C (g40 c129_18 c147_19) dL_areLines_159 ?_
                          refine gr_sub [1, 2, 3, 4, 5, 6, 7, 8] rfl ?_
                          exact k160 _ ((if_pos (Or.inl ⟨c129_18, c147_19⟩)).symm)
                        · refine gr_iload C 0 dL_areLines_150 rfl ?_
                          refine gr_goto C 160 dL_areLines_152 (by decide) ?_
                          refine gr_sub [1, 2, 3, 4, 5, 6, 7, 8] rfl ?_
                          exact k160 _ ((if_neg (fun q0 => Or.elim q0 (fun r => c147_19 r.2) (fun r => r.1 c129_18))).symm)
                      · refine gr_iload C 9 dL_areLines_132 rfl ?_
                        refine gr_aloadn C 2 1 dL_areLines_134 rfl rfl ?_
                        refine gr_iconst C 1 dL_areLines_135 (by decide) ?_
                        refine gr_iald C (g41 c129_18) dL_areLines_136 ?_
                        refine gr_icmp_gt C 155 dL_areLines_137 (by decide) (fun c137_20 => ?_) (fun c137_20 => ?_)
                        · refine gr_aload C 6 dL_areLines_155 rfl ?_
                          refine gr_iload C 7 dL_areLines_157 rfl ?_
                          refine gr_iald C (g42 c129_18 c137_20) dL_areLines_159 ?_
                          refine gr_sub [1, 2, 3, 4, 5, 6, 7, 8] rfl ?_
                          exact k160 _ ((if_pos (Or.inr ⟨c129_18, (Or.inl c137_20)⟩)).symm)
                        · refine gr_iload C 0 dL_areLines_140 rfl ?_
                          refine gr_aload C 6 dL_areLines_142 rfl ?_
                          refine gr_iload C 7 dL_areLines_144 rfl ?_
                          refine gr_iald C (g43 c129_18 c137_20) dL_areLines_146 ?_
                          refine gr_icmp_ge C 155 dL_areLines_147 (by decide) (fun c147_21 => ?_) (fun c147_21 => ?_)
                          · refine gr_aload C 6 dL_areLines_155 rfl ?_
                            refine gr_iload C 7 dL_areLines_157 rfl ?_
                            refine gr_iald C (g44 c129_18 c137_20 c147_21) dL_areLines_159 ?_
                            refine gr_sub [1, 2, 3, 4, 5, 6, 7, 8] rfl ?_
                            exact k160 _ ((if_pos (Or.inr ⟨c129_18, (Or.inr c147_21)⟩)).symm)
                          · refine gr_iload C 0 dL_areLines_150 rfl ?_
                            refine gr_goto C 160 dL_areLines_152 (by decide) ?_
                            refine gr_sub [1, 2, 3, 4, 5, 6, 7, 8] rfl ?_
                            exact k160 _ ((if_neg (fun q0 => Or.elim q0 (fun r => c129_18 r.1) (fun r => (fun q1 => Or.elim q1 c137_20 c147_21) r.2))).symm)
                    refine gr_icmp_ne C 112 dL_areLines_105 (by decide) (fun c105_17 => ?_) (fun c105_17 => ?_)
                    · refine gr_iconst C 0 dL_areLines_112 (by decide) ?_
                      refine gr_sub [1, 2, 3, 4, 5, 6, 7, 8, 0] rfl ?_
                      exact k113 _ ((if_neg c105_17).symm)
                    · refine gr_iconst C 1 dL_areLines_108 (by decide) ?_
                      refine gr_goto C 113 dL_areLines_109 (by decide) ?_
                      refine gr_sub [1, 2, 3, 4, 5, 6, 7, 8, 0] rfl ?_
                      exact k113 _ ((if_pos c105_17).symm)
              exact k72 n72 (0, t30) h
        exact k56 n56 (1, z21.2) h
      · have h := h.2 c24_1
        refine gr_aload C 4 dL_areLines_27 rfl ?_
        refine gr_iload C 6 dL_areLines_29 rfl ?_
        refine gr_iconst C 1 dL_areLines_31 (by decide) ?_
        refine gr_iadd C dL_areLines_32 ?_
        refine gr_aload C 4 dL_areLines_33 rfl ?_
        refine gr_iload C 6 dL_areLines_35 rfl ?_
        obtain ⟨g47, h⟩ := h
        refine gr_iald C g47 dL_areLines_37 ?_
        refine gr_aloadn C 0 0 dL_areLines_38 rfl rfl ?_
        refine gr_iloadn C 2 2 dL_areLines_39 rfl rfl ?_
        refine gr_iload C 6 dL_areLines_40 rfl ?_
        obtain ⟨B48, hB48, hR48, h⟩ := h
        refine gr_callW C (y := yL_itemWidth) (as := [.ref o, .int a2, .int z21.1]) (by exact ⟨Nat.le_of_ble_eq_true rfl, Nat.le_of_ble_eq_true rfl⟩) B48 hB48 hR48 (c_L_itemWidth l D K E0 b0 B48 o a2 z21.1 z21.2 _ h) hk_L_itemWidth rfl vs_L_234 kc_L_itemWidth dL_areLines_42 (Nat.le_of_ble_eq_true rfl) (fun r48 t48 h z1 z2 => ?_)
        have h := h z1 z2
        refine gr_iadd C dL_areLines_45 ?_
        obtain ⟨g49, h⟩ := h
        refine gr_iast C g49 dL_areLines_46 ?_
        refine gr_nameS (fun t50 et50 => ?_)
        have h := h t50 et50
        refine gr_iinc C 6 (z21.1 + 1) [(6, .int (z21.1 + 1)), (0, .ref o), (1, .ref a1), (2, .int a2), (3, .int r1), (4, .ref (szC t1.1)), (5, .ref (szC t4.1))] dL_areLines_47 rfl rfl (by decide) rfl ?_
        refine gr_goto C 21 dL_areLines_50 (by decide) ?_
        refine gr_sub [1, 2, 3, 4, 5, 6, 0] rfl ?_
        have h9 := ih21 ((z21.1 + 1), t50) h
        exact h9
  exact k21 n21 (0, t7) h
