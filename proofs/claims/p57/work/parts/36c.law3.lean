/-! THE LAW'S METHODS (3) -/
def w_L_arePages_L350 (B : Nat × Nat) (o : Nat) (a1 : Nat) (a2 : Int32) (Q : Int32 → LwS → Prop) (r1 : Int32) (z18 : Int32 × Int32 × Int32 × Int32 × LwS) (r2 : Int32) (K350 : (Int32 × Int32 × LwS) → Prop) (z350 : Int32 × Int32 × LwS) : Prop := ((r2 ≤ z350.2.1) → ∃ J539 : Int32 → LwS → Prop, (∀ x6 : Int32, ∀ t7 : LwS, J539 x6 t7 → ((gb x6) ∧ Q x6 t7)) ∧ ∃ J538 : LwS → Prop, (∀ t9 : LwS, J538 t9 → (J539 0 t9)) ∧ (((z350.1 = 0) → J538 z350.2.2) ∧ (¬ (z350.1 = 0) → lcall B z350.2.2 (fun B1 K => w_L_pageLines B1 o a2 r1 z350.2.2 K) (fun r10 t10 => ((r10 = (-1000001)) → lcall B t10 (fun B1 K => w_L_turnBar B1 o a2 z18.2.1 t10 K) (fun r11 t11 => ((r11 = (-1000001)) → lcall B t11 (fun B1 K => w_L_turnTime B1 o a2 z18.2.1 t11 K) (fun r12 t12 => ((r12 = (-1000001)) → lcall B t12 (fun B1 K => w_L_turnRest B1 o a2 (-1) t12 K) (fun r13 t13 => ((r13 = (-1000001)) → (vp_in 0 (rN t13.2 a1)) ∧ lcall B t13 (fun B1 K => w_L_pageOf B1 o a2 (rG t13.2 a1 (Int32.toNatClampNeg 0)) t13 K) (fun r15 t15 => ((r15 = (-1000001)) → lcall B t15 (fun B1 K => w_L_sheetPage B1 o a2 r2 1 1 t15 K) (fun r16 t16 => ((r16 = (-1000001)) → J539 1 t16) ∧ (¬ (r16 = (-1000001)) → J538 t16))) ∧ (¬ (r15 = (-1000001)) → J538 t15))) ∧ (¬ (r13 = (-1000001)) → J538 t13))) ∧ (¬ (r12 = (-1000001)) → J538 t12))) ∧ (¬ (r11 = (-1000001)) → J538 t11))) ∧ (¬ (r10 = (-1000001)) → J538 t10))))) ∧ (¬ (r2 ≤ z350.2.1) → lcall B z350.2.2 (fun B1 K => w_L_sheetPage B1 o a2 z350.2.1 1 1 z350.2.2 K) (fun r17 t17 => lcall B t17 (fun B1 K => w_L_sheetPage B1 o a2 z350.2.1 0 1 t17 K) (fun r18 t18 => ∃ J448 : Int32 → LwS → Prop, (∀ x19 : Int32, ∀ t20 : LwS, J448 x19 t20 → (K350 (x19, (z350.2.1 + 1), t20))) ∧ ∃ J447 : LwS → Prop, (∀ t21 : LwS, J447 t21 → (J448 0 t21)) ∧ ((((z350.1 = 0) ∨ (¬ (r17 = ((((4 : Int32) * r2) - 1) - ((2 : Int32) * z350.2.1))))) → J447 t18) ∧ (¬ ((z350.1 = 0) ∨ (¬ (r17 = ((((4 : Int32) * r2) - 1) - ((2 : Int32) * z350.2.1))))) → lcall B t18 (fun B1 K => w_L_sheetPage B1 o a2 z350.2.1 1 0 t18 K) (fun r22 t22 => (((r22 = ((2 : Int32) * z350.2.1)) ∧ (r18 = (((2 : Int32) * z350.2.1) + 1))) → lcall B t22 (fun B1 K => w_L_sheetPage B1 o a2 z350.2.1 0 0 t22 K) (fun r23 t23 => ((r23 = (r17 - 1)) → J448 1 t23) ∧ (¬ (r23 = (r17 - 1)) → J447 t23))) ∧ (¬ ((r22 = ((2 : Int32) * z350.2.1)) ∧ (r18 = (((2 : Int32) * z350.2.1) + 1))) → J447 t22)))))))
def w_L_arePages_L153 (B : Nat × Nat) (o : Nat) (a1 : Nat) (a2 : Int32) (Q : Int32 → LwS → Prop) (z18 : Int32 × Int32 × Int32 × Int32 × LwS) (x29 : Int32) (J277 : Int32 → Int32 → LwS → Prop) (x38 : Int32) (r39 : Int32) (K153 : (Int32 × LwS) → Prop) (z153 : Int32 × LwS) : Prop := lcall B z153.2 (fun B1 K => w_L_barAt B1 o z153.1 z153.2 K) (fun r40 t40 => ((r40 = (x38 + 1)) → lcall B t40 (fun B1 K => w_L_turnBar B1 o a2 z18.2.1 t40 K) (fun r41 t41 => ∃ J254 : LwS → Prop, (∀ t42 : LwS, J254 t42 → (Q 0 t42)) ∧ (((r41 = x38) → lcall B t41 (fun B1 K => w_L_turnTime B1 o a2 z18.2.1 t41 K) (fun r43 t43 => lcall B t43 (fun B1 K => w_L_startOf B1 o z153.1 t43 K) (fun r44 t44 => (((¬ (r43 = r44)) ∨ (r39 < 0)) → J254 t44) ∧ (¬ ((¬ (r43 = r44)) ∨ (r39 < 0)) → (kdC t44.1 o = 14) ∧ lcall B t44 (fun B1 K => w_X11_playingTime B1 o t44.1 (fun r S' => K r (S', t44.2)) (fun _ _ => False)) (fun r45 t45 => ((r45 < r39) → J254 t45) ∧ (¬ (r45 < r39) → lcall B t45 (fun B1 K => w_L_pageOf B1 o a2 x38 t45 K) (fun r46 t46 => ((r46 = z18.2.2.2.1) → lcall B t46 (fun B1 K => w_L_pageOf B1 o a2 (x38 + 1) t46 K) (fun r47 t47 => ∀ x48 : Int32, x48 = (if x29 = 0 then (z18.2.2.2.1 + 2) else (z18.2.2.2.1 + 1)) → ((r47 = x48) → (vp_in 3 (rN t47.2 a1)) ∧ ∀ x50 : Int32, x50 = (if ¬ ((rG t47.2 a1 (Int32.toNatClampNeg 3)) ≤ r39) then 1 else 0) → ∀ x51 : Int32, x51 = (z18.2.2.1 + x50) → J277 (z18.2.1 + 1) x51 t47) ∧ (¬ (r47 = x48) → J254 t47))) ∧ (¬ (r46 = z18.2.2.2.1) → J254 t46)))))))) ∧ (¬ (r41 = x38) → J254 t41)))) ∧ (¬ (r40 = (x38 + 1)) → K153 ((z153.1 + 1), t40)))
def w_L_arePages_L18 (B : Nat × Nat) (o : Nat) (a1 : Nat) (a2 : Int32) (Q : Int32 → LwS → Prop) (r1 : Int32) (K18 : (Int32 × Int32 × Int32 × Int32 × LwS) → Prop) (z18 : Int32 × Int32 × Int32 × Int32 × LwS) : Prop := ((r1 ≤ z18.2.2.2.1) → lcall B z18.2.2.2.2 (fun B1 K => w_L_sheets B1 o a2 z18.2.2.2.2 K) (fun r2 t2 => lcall B t2 (fun B1 K => w_L_lines B1 o a2 t2 K) (fun r3 t3 => ∃ J345 : Int32 → LwS → Prop, (∀ x4 : Int32, ∀ t5 : LwS, J345 x4 t5 → (∃ n, lp (w_L_arePages_L350 B o a1 a2 Q r1 z18 r2) n (x4, 0, t5))) ∧ ∃ J344 : LwS → Prop, (∀ t24 : LwS, J344 t24 → (J345 0 t24)) ∧ (((z18.1 = r3) → lcall B t3 (fun B1 K => w_L_pageTurns B1 o a2 t3 K) (fun r25 t25 => ((r25 = z18.2.1) → lcall B t25 (fun B1 K => w_L_badTurns B1 o a2 t25 K) (fun r26 t26 => ((r26 < z18.2.2.1) → J344 t26) ∧ (¬ (r26 < z18.2.2.1) → lcall B t26 (fun B1 K => w_L_badTurns B1 o a2 t26 K) (fun r27 t27 => (((z18.2.1 < r27) ∨ (¬ (r2 = ((r1 + 3) / 4)))) → J344 t27) ∧ (¬ ((z18.2.1 < r27) ∨ (¬ (r2 = ((r1 + 3) / 4)))) → J345 1 t27))))) ∧ (¬ (r25 = z18.2.1) → J344 t25))) ∧ (¬ (z18.1 = r3) → J344 t3))))) ∧ (¬ (r1 ≤ z18.2.2.2.1) → lcall B z18.2.2.2.2 (fun B1 K => w_L_pageLines B1 o a2 z18.2.2.2.1 z18.2.2.2.2 K) (fun r28 t28 => ∃ J54 : Int32 → LwS → Prop, (∀ x29 : Int32, ∀ t30 : LwS, J54 x29 t30 → (((¬ (r28 < 0)) → vp_in 2 (rN t30.2 a1)) ∧ (((r28 < 0) ∨ (((rG t30.2 a1 (Int32.toNatClampNeg 2)) < r28) ∨ ((r28 = 0) ∧ (((z18.2.2.2.1 + 1) = r1) ∨ (x29 = 0))))) → Q 0 t30) ∧ (¬ ((r28 < 0) ∨ (((rG t30.2 a1 (Int32.toNatClampNeg 2)) < r28) ∨ ((r28 = 0) ∧ (((z18.2.2.2.1 + 1) = r1) ∨ (x29 = 0))))) → ∀ x32 : Int32, x32 = (z18.1 + r28) → ∃ J277 : Int32 → Int32 → LwS → Prop, (∀ x33 : Int32, ∀ x34 : Int32, ∀ t35 : LwS, J277 x33 x34 t35 → (K18 (x32, x33, x34, (z18.2.2.2.1 + 1), t35))) ∧ ((((r1 ≤ (z18.2.2.2.1 + 1)) ∨ ((r28 ≤ 0) ∨ ((¬ ((mRem z18.2.2.2.1 2) = 0)) ∧ (¬ (x29 = 0))))) → J277 z18.2.1 z18.2.2.1 t30) ∧ (¬ ((r1 ≤ (z18.2.2.2.1 + 1)) ∨ ((r28 ≤ 0) ∨ ((¬ ((mRem z18.2.2.2.1 2) = 0)) ∧ (¬ (x29 = 0))))) → lcall B t30 (fun B1 K => w_L_firstItem B1 o a2 x32 t30 K) (fun r36 t36 => lcall B t36 (fun B1 K => w_L_itemBar B1 o a2 r36 t36 K) (fun r37 t37 => ∀ x38 : Int32, x38 = (r37 - 1) → lcall B t37 (fun B1 K => w_L_turnRest B1 o a2 z18.2.1 t37 K) (fun r39 t39 => ∃ n, lp (w_L_arePages_L153 B o a1 a2 Q z18 x29 J277 x38 r39) n (0, t39))))))))) ∧ (((r1 ≤ (z18.2.2.2.1 + 1)) → J54 1 t28) ∧ (¬ (r1 ≤ (z18.2.2.2.1 + 1)) → lcall B t28 (fun B1 K => w_L_pageLines B1 o a2 (z18.2.2.2.1 + 1) t28 K) (fun r52 t52 => J54 r52 t52)))))
def w_L_arePages (B : Nat × Nat) (o : Nat) (a1 : Nat) (a2 : Int32) (t : LwS) (Q : Int32 → LwS → Prop) : Prop := lcall B t (fun B1 K => w_L_pages B1 o a2 t K) (fun r1 t1 => ∃ n, lp (w_L_arePages_L18 B o a1 a2 Q r1) n (0, 0, 0, 0, t1))
set_option maxRecDepth 20000 in
set_option maxHeartbeats 4000000 in
theorem c_L_arePages (l : Launch) (D : va_G) (K : Nat → ClassId) (E0 b0 : Nat) (B : Nat × Nat) (o : Nat) (a1 : Nat) (a2 : Int32) (t : LwS) (Q : Int32 → LwS → Prop) (h : w_L_arePages B o a1 a2 t Q) : MetR l yL_arePages (.code yL_arePages cL_arePages 14 (some .boolean)) 14 [.ref o, .ref a1, .int a2] Q D K E0 b0 B t := by
  unfold w_L_arePages at h
  refine gr_start (by decide) rfl (Nat.le_of_ble_eq_true rfl) (fun p e s m args below meth c C E => ?_)
  refine gr_aloadn C 0 0 dL_arePages_0 rfl rfl ?_
  refine gr_iloadn C 2 2 dL_arePages_1 rfl rfl ?_
  obtain ⟨B1, hB1, hR1, h⟩ := h
  refine gr_callW C (y := yL_pages) (as := [.ref o, .int a2]) (by exact ⟨Nat.le_of_ble_eq_true rfl, Nat.le_of_ble_eq_true rfl⟩) B1 hB1 hR1 (c_L_pages l D K E0 b0 B1 o a2 t _ h) hk_L_pages rfl vs_L_250 kc_L_pages dL_arePages_2 (Nat.le_of_ble_eq_true rfl) (fun r1 t1 h z1 z2 => ?_)
  have h := h z1 z2
  refine gr_istoren C 3 [(3, .int r1), (0, .ref o), (1, .ref a1), (2, .int a2)] dL_arePages_5 rfl (by decide) rfl ?_
  refine gr_iconst C 0 dL_arePages_6 (by decide) ?_
  refine gr_istore C [(4, .int 0), (3, .int r1), (0, .ref o), (1, .ref a1), (2, .int a2)] dL_arePages_7 (by decide) rfl ?_
  refine gr_iconst C 0 dL_arePages_9 (by decide) ?_
  refine gr_istore C [(5, .int 0), (4, .int 0), (3, .int r1), (0, .ref o), (1, .ref a1), (2, .int a2)] dL_arePages_10 (by decide) rfl ?_
  refine gr_iconst C 0 dL_arePages_12 (by decide) ?_
  refine gr_istore C [(6, .int 0), (5, .int 0), (4, .int 0), (3, .int r1), (0, .ref o), (1, .ref a1), (2, .int a2)] dL_arePages_13 (by decide) rfl ?_
  refine gr_iconst C 0 dL_arePages_15 (by decide) ?_
  refine gr_istore C [(7, .int 0), (6, .int 0), (5, .int 0), (4, .int 0), (3, .int r1), (0, .ref o), (1, .ref a1), (2, .int a2)] dL_arePages_16 (by decide) rfl ?_
  refine gr_sub [5, 6, 7, 4, 3, 2, 1, 0] rfl ?_
  obtain ⟨n18, h⟩ := h
  have k18 : ∀ (n18 : Nat) (z18 : Int32 × Int32 × Int32 × Int32 × LwS), lp (w_L_arePages_L18 B o a1 a2 Q r1) n18 z18 → GR p l e (rmC 14 B t.1) s m args below meth c 14 D K E0 B b0 (gr_Q below D K E0 b0 Q args s (rmC 14 B t.1)) z18.2.2.2.2 18 [(0, .ref o), (1, .ref a1), (2, .int a2), (3, .int r1), (4, .int z18.1), (5, .int z18.2.1), (6, .int z18.2.2.1), (7, .int z18.2.2.2.1)] [] := by
    intro n18
    induction n18 with
    | zero => intro z18 h; exact h.elim
    | succ n18 ih18 =>
      intro z18 h
      have h : w_L_arePages_L18 B o a1 a2 Q r1 (lp (w_L_arePages_L18 B o a1 a2 Q r1) n18) z18 := h
      unfold w_L_arePages_L18 at h
      refine gr_iload C 7 dL_arePages_18 rfl ?_
      refine gr_iloadn C 3 3 dL_arePages_20 rfl rfl ?_
      refine gr_icmp_ge C 283 dL_arePages_21 (by decide) (fun c21_1 => ?_) (fun c21_1 => ?_)
      · have h := h.1 c21_1
        refine gr_aloadn C 0 0 dL_arePages_283 rfl rfl ?_
        refine gr_iloadn C 2 2 dL_arePages_284 rfl rfl ?_
        obtain ⟨B2, hB2, hR2, h⟩ := h
        refine gr_callW C (y := yL_sheets) (as := [.ref o, .int a2]) (by exact ⟨Nat.le_of_ble_eq_true rfl, Nat.le_of_ble_eq_true rfl⟩) B2 hB2 hR2 (c_L_sheets l D K E0 b0 B2 o a2 z18.2.2.2.2 _ h) hk_L_sheets rfl vs_L_262 kc_L_sheets dL_arePages_285 (Nat.le_of_ble_eq_true rfl) (fun r2 t2 h z1 z2 => ?_)
        have h := h z1 z2
        refine gr_istore C [(7, .int r2), (0, .ref o), (1, .ref a1), (2, .int a2), (3, .int r1), (4, .int z18.1), (5, .int z18.2.1), (6, .int z18.2.2.1)] dL_arePages_288 (by decide) rfl ?_
        refine gr_iload C 5 dL_arePages_290 rfl ?_
        refine gr_aloadn C 1 0 dL_arePages_292 rfl rfl ?_
        refine gr_iloadn C 3 2 dL_arePages_293 rfl rfl ?_
        obtain ⟨B3, hB3, hR3, h⟩ := h
        refine gr_callW C (y := yL_lines) (as := [.ref o, .int a2]) (by exact ⟨Nat.le_of_ble_eq_true rfl, Nat.le_of_ble_eq_true rfl⟩) B3 hB3 hR3 (c_L_lines l D K E0 b0 B3 o a2 t2 _ h) hk_L_lines rfl vs_L_244 kc_L_lines dL_arePages_294 (Nat.le_of_ble_eq_true rfl) (fun r3 t3 h z1 z2 => ?_)
        have h := h z1 z2
        obtain ⟨J345, hJ345, h⟩ := h
        have k345 : ∀ x4 : Int32, ∀ t5 : LwS, J345 x4 t5 → GR p l e (rmC 14 B t.1) s m args below meth c 14 D K E0 B b0 (gr_Q below D K E0 b0 Q args s (rmC 14 B t.1)) t5 345 [(0, .ref o), (1, .ref a1), (2, .int a2), (3, .int r1), (5, .int z18.2.1), (7, .int r2)] [.int x4] := by
          intro x4 t5 h
          have h := hJ345 x4 t5 h
          refine gr_istore C [(8, .int x4), (0, .ref o), (1, .ref a1), (2, .int a2), (3, .int r1), (5, .int z18.2.1), (7, .int r2)] dL_arePages_345 (by decide) rfl ?_
          refine gr_iconst C 0 dL_arePages_347 (by decide) ?_
          refine gr_istore C [(9, .int 0), (8, .int x4), (0, .ref o), (1, .ref a1), (2, .int a2), (3, .int r1), (5, .int z18.2.1), (7, .int r2)] dL_arePages_348 (by decide) rfl ?_
          refine gr_sub [2, 3, 4, 5, 6, 7, 1, 0] rfl ?_
          obtain ⟨n350, h⟩ := h
          have k350 : ∀ (n350 : Nat) (z350 : Int32 × Int32 × LwS), lp (w_L_arePages_L350 B o a1 a2 Q r1 z18 r2) n350 z350 → GR p l e (rmC 14 B t.1) s m args below meth c 14 D K E0 B b0 (gr_Q below D K E0 b0 Q args s (rmC 14 B t.1)) z350.2.2 350 [(0, .ref o), (1, .ref a1), (2, .int a2), (3, .int r1), (5, .int z18.2.1), (7, .int r2), (8, .int z350.1), (9, .int z350.2.1)] [] := by
            intro n350
            induction n350 with
            | zero => intro z350 h; exact h.elim
            | succ n350 ih350 =>
              intro z350 h
              have h : w_L_arePages_L350 B o a1 a2 Q r1 z18 r2 (lp (w_L_arePages_L350 B o a1 a2 Q r1 z18 r2) n350) z350 := h
              unfold w_L_arePages_L350 at h
              refine gr_iload C 7 dL_arePages_350 rfl ?_
              refine gr_iload C 5 dL_arePages_352 rfl ?_
              refine gr_icmp_ge C 456 dL_arePages_354 (by decide) (fun c354_2 => ?_) (fun c354_2 => ?_)
              · have h := h.1 c354_2
                refine gr_iload C 6 dL_arePages_456 rfl ?_
                obtain ⟨J539, hJ539, h⟩ := h
                have k539 : ∀ x6 : Int32, ∀ t7 : LwS, J539 x6 t7 → GR p l e (rmC 14 B t.1) s m args below meth c 14 D K E0 B b0 (gr_Q below D K E0 b0 Q args s (rmC 14 B t.1)) t7 539 [] [.int x6] := by
                  intro x6 t7 h
                  have h := hJ539 x6 t7 h
                  obtain ⟨g8, h⟩ := h
                  exact gr_zret C E g8 dL_arePages_539 h
                obtain ⟨J538, hJ538, h⟩ := h
                have k538 : ∀ t9 : LwS, J538 t9 → GR p l e (rmC 14 B t.1) s m args below meth c 14 D K E0 B b0 (gr_Q below D K E0 b0 Q args s (rmC 14 B t.1)) t9 538 [] [] := by
                  intro t9 h
                  have h := hJ538 t9 h
                  refine gr_iconst C 0 dL_arePages_538 (by decide) ?_
                  exact k539 0 t9 h
                refine gr_if_eq C 538 dL_arePages_458 (by decide) (fun c458_3 => ?_) (fun c458_3 => ?_)
                · have h := h.1 c458_3
                  refine gr_sub [] rfl ?_
                  exact k538 z350.2.2 h
                · have h := h.2 c458_3
                  refine gr_aloadn C 0 0 dL_arePages_461 rfl rfl ?_
                  refine gr_iloadn C 2 2 dL_arePages_462 rfl rfl ?_
                  refine gr_iloadn C 3 3 dL_arePages_463 rfl rfl ?_
                  obtain ⟨B10, hB10, hR10, h⟩ := h
                  refine gr_callW C (y := yL_pageLines) (as := [.ref o, .int a2, .int r1]) (by exact ⟨Nat.le_of_ble_eq_true rfl, Nat.le_of_ble_eq_true rfl⟩) B10 hB10 hR10 (c_L_pageLines l D K E0 b0 B10 o a2 r1 z350.2.2 _ h) hk_L_pageLines rfl vs_L_252 kc_L_pageLines dL_arePages_464 (Nat.le_of_ble_eq_true rfl) (fun r10 t10 h z1 z2 => ?_)
                  have h := h z1 z2
                  refine gr_ldc C (-1000001) v_i533 dL_arePages_467 ?_
                  refine gr_icmp_ne C 538 dL_arePages_469 (by decide) (fun c469_4 => ?_) (fun c469_4 => ?_)
                  · have h := h.2 c469_4
                    refine gr_sub [] rfl ?_
                    exact k538 t10 h
                  · have h := h.1 c469_4
                    refine gr_aloadn C 0 0 dL_arePages_472 rfl rfl ?_
                    refine gr_iloadn C 2 2 dL_arePages_473 rfl rfl ?_
                    refine gr_iload C 4 dL_arePages_474 rfl ?_
                    obtain ⟨B11, hB11, hR11, h⟩ := h
                    refine gr_callW C (y := yL_turnBar) (as := [.ref o, .int a2, .int z18.2.1]) (by exact ⟨Nat.le_of_ble_eq_true rfl, Nat.le_of_ble_eq_true rfl⟩) B11 hB11 hR11 (c_L_turnBar l D K E0 b0 B11 o a2 z18.2.1 t10 _ h) hk_L_turnBar rfl vs_L_256 kc_L_turnBar dL_arePages_476 (Nat.le_of_ble_eq_true rfl) (fun r11 t11 h z1 z2 => ?_)
                    have h := h z1 z2
                    refine gr_ldc C (-1000001) v_i533 dL_arePages_479 ?_
                    refine gr_icmp_ne C 538 dL_arePages_481 (by decide) (fun c481_5 => ?_) (fun c481_5 => ?_)
                    · have h := h.2 c481_5
                      refine gr_sub [] rfl ?_
                      exact k538 t11 h
                    · have h := h.1 c481_5
                      refine gr_aloadn C 0 0 dL_arePages_484 rfl rfl ?_
                      refine gr_iloadn C 2 2 dL_arePages_485 rfl rfl ?_
                      refine gr_iload C 4 dL_arePages_486 rfl ?_
                      obtain ⟨B12, hB12, hR12, h⟩ := h
                      refine gr_callW C (y := yL_turnTime) (as := [.ref o, .int a2, .int z18.2.1]) (by exact ⟨Nat.le_of_ble_eq_true rfl, Nat.le_of_ble_eq_true rfl⟩) B12 hB12 hR12 (c_L_turnTime l D K E0 b0 B12 o a2 z18.2.1 t11 _ h) hk_L_turnTime rfl vs_L_258 kc_L_turnTime dL_arePages_488 (Nat.le_of_ble_eq_true rfl) (fun r12 t12 h z1 z2 => ?_)
                      have h := h z1 z2
                      refine gr_ldc C (-1000001) v_i533 dL_arePages_491 ?_
                      refine gr_icmp_ne C 538 dL_arePages_493 (by decide) (fun c493_6 => ?_) (fun c493_6 => ?_)
                      · have h := h.2 c493_6
                        refine gr_sub [] rfl ?_
                        exact k538 t12 h
                      · have h := h.1 c493_6
                        refine gr_aloadn C 0 0 dL_arePages_496 rfl rfl ?_
                        refine gr_iloadn C 2 2 dL_arePages_497 rfl rfl ?_
                        refine gr_iconst C (-1) dL_arePages_498 (by decide) ?_
                        obtain ⟨B13, hB13, hR13, h⟩ := h
                        refine gr_callW C (y := yL_turnRest) (as := [.ref o, .int a2, .int (-1)]) (by exact ⟨Nat.le_of_ble_eq_true rfl, Nat.le_of_ble_eq_true rfl⟩) B13 hB13 hR13 (c_L_turnRest l D K E0 b0 B13 o a2 (-1) t12 _ h) hk_L_turnRest rfl vs_L_254 kc_L_turnRest dL_arePages_499 (Nat.le_of_ble_eq_true rfl) (fun r13 t13 h z1 z2 => ?_)
                        have h := h z1 z2
                        refine gr_ldc C (-1000001) v_i533 dL_arePages_502 ?_
                        refine gr_icmp_ne C 538 dL_arePages_504 (by decide) (fun c504_7 => ?_) (fun c504_7 => ?_)
                        · have h := h.2 c504_7
                          refine gr_sub [] rfl ?_
                          exact k538 t13 h
                        · have h := h.1 c504_7
                          refine gr_aloadn C 0 0 dL_arePages_507 rfl rfl ?_
                          refine gr_iloadn C 2 2 dL_arePages_508 rfl rfl ?_
                          refine gr_aloadn C 1 1 dL_arePages_509 rfl rfl ?_
                          refine gr_iconst C 0 dL_arePages_510 (by decide) ?_
                          obtain ⟨g14, h⟩ := h
                          refine gr_iald C g14 dL_arePages_511 ?_
                          obtain ⟨B15, hB15, hR15, h⟩ := h
                          refine gr_callW C (y := yL_pageOf) (as := [.ref o, .int a2, .int (rG t13.2 a1 (Int32.toNatClampNeg 0))]) (by exact ⟨Nat.le_of_ble_eq_true rfl, Nat.le_of_ble_eq_true rfl⟩) B15 hB15 hR15 (c_L_pageOf l D K E0 b0 B15 o a2 (rG t13.2 a1 (Int32.toNatClampNeg 0)) t13 _ h) hk_L_pageOf rfl vs_L_260 kc_L_pageOf dL_arePages_512 (Nat.le_of_ble_eq_true rfl) (fun r15 t15 h z1 z2 => ?_)
                          have h := h z1 z2
                          refine gr_ldc C (-1000001) v_i533 dL_arePages_515 ?_
                          refine gr_icmp_ne C 538 dL_arePages_517 (by decide) (fun c517_8 => ?_) (fun c517_8 => ?_)
                          · have h := h.2 c517_8
                            refine gr_sub [] rfl ?_
                            exact k538 t15 h
                          · have h := h.1 c517_8
                            refine gr_aloadn C 0 0 dL_arePages_520 rfl rfl ?_
                            refine gr_iloadn C 2 2 dL_arePages_521 rfl rfl ?_
                            refine gr_iload C 5 dL_arePages_522 rfl ?_
                            refine gr_iconst C 1 dL_arePages_524 (by decide) ?_
                            refine gr_iconst C 1 dL_arePages_525 (by decide) ?_
                            obtain ⟨B16, hB16, hR16, h⟩ := h
                            refine gr_callW C (y := yL_sheetPage) (as := [.ref o, .int a2, .int r2, .int 1, .int 1]) (by exact ⟨Nat.le_of_ble_eq_true rfl, Nat.le_of_ble_eq_true rfl⟩) B16 hB16 hR16 (c_L_sheetPage l D K E0 b0 B16 o a2 r2 1 1 t15 _ h) hk_L_sheetPage rfl vs_L_268 kc_L_sheetPage dL_arePages_526 (Nat.le_of_ble_eq_true rfl) (fun r16 t16 h z1 z2 => ?_)
                            have h := h z1 z2
                            refine gr_ldc C (-1000001) v_i533 dL_arePages_529 ?_
                            refine gr_icmp_ne C 538 dL_arePages_531 (by decide) (fun c531_9 => ?_) (fun c531_9 => ?_)
                            · have h := h.2 c531_9
                              refine gr_sub [] rfl ?_
                              exact k538 t16 h
                            · have h := h.1 c531_9
                              refine gr_iconst C 1 dL_arePages_534 (by decide) ?_
                              refine gr_goto C 539 dL_arePages_535 (by decide) ?_
                              refine gr_sub [] rfl ?_
                              exact k539 1 t16 h
              · have h := h.2 c354_2
                refine gr_aloadn C 0 0 dL_arePages_357 rfl rfl ?_
                refine gr_iloadn C 2 2 dL_arePages_358 rfl rfl ?_
                refine gr_iload C 7 dL_arePages_359 rfl ?_
                refine gr_iconst C 1 dL_arePages_361 (by decide) ?_
                refine gr_iconst C 1 dL_arePages_362 (by decide) ?_
                obtain ⟨B17, hB17, hR17, h⟩ := h
                refine gr_callW C (y := yL_sheetPage) (as := [.ref o, .int a2, .int z350.2.1, .int 1, .int 1]) (by exact ⟨Nat.le_of_ble_eq_true rfl, Nat.le_of_ble_eq_true rfl⟩) B17 hB17 hR17 (c_L_sheetPage l D K E0 b0 B17 o a2 z350.2.1 1 1 z350.2.2 _ h) hk_L_sheetPage rfl vs_L_268 kc_L_sheetPage dL_arePages_363 (Nat.le_of_ble_eq_true rfl) (fun r17 t17 h z1 z2 => ?_)
                have h := h z1 z2
                refine gr_istore C [(10, .int r17), (0, .ref o), (1, .ref a1), (2, .int a2), (3, .int r1), (5, .int z18.2.1), (7, .int r2), (8, .int z350.1), (9, .int z350.2.1)] dL_arePages_366 (by decide) rfl ?_
                refine gr_aloadn C 1 0 dL_arePages_368 rfl rfl ?_
                refine gr_iloadn C 3 2 dL_arePages_369 rfl rfl ?_
                refine gr_iload C 8 dL_arePages_370 rfl ?_
                refine gr_iconst C 0 dL_arePages_372 (by decide) ?_
                refine gr_iconst C 1 dL_arePages_373 (by decide) ?_
                obtain ⟨B18, hB18, hR18, h⟩ := h
                refine gr_callW C (y := yL_sheetPage) (as := [.ref o, .int a2, .int z350.2.1, .int 0, .int 1]) (by exact ⟨Nat.le_of_ble_eq_true rfl, Nat.le_of_ble_eq_true rfl⟩) B18 hB18 hR18 (c_L_sheetPage l D K E0 b0 B18 o a2 z350.2.1 0 1 t17 _ h) hk_L_sheetPage rfl vs_L_268 kc_L_sheetPage dL_arePages_374 (Nat.le_of_ble_eq_true rfl) (fun r18 t18 h z1 z2 => ?_)
                have h := h z1 z2
                refine gr_istore C [(11, .int r18), (10, .int r17), (0, .ref o), (1, .ref a1), (2, .int a2), (3, .int r1), (5, .int z18.2.1), (7, .int r2), (8, .int z350.1), (9, .int z350.2.1)] dL_arePages_377 (by decide) rfl ?_
                refine gr_iload C 8 dL_arePages_379 rfl ?_
                obtain ⟨J448, hJ448, h⟩ := h
                have k448 : ∀ x19 : Int32, ∀ t20 : LwS, J448 x19 t20 → GR p l e (rmC 14 B t.1) s m args below meth c 14 D K E0 B b0 (gr_Q below D K E0 b0 Q args s (rmC 14 B t.1)) t20 448 [(0, .ref o), (1, .ref a1), (2, .int a2), (3, .int r1), (5, .int z18.2.1), (7, .int r2), (9, .int z350.2.1)] [.int x19] := by
                  intro x19 t20 h
                  have h := hJ448 x19 t20 h
                  refine gr_istore C [(8, .int x19), (0, .ref o), (1, .ref a1), (2, .int a2), (3, .int r1), (5, .int z18.2.1), (7, .int r2), (9, .int z350.2.1)] dL_arePages_448 (by decide) rfl ?_
                  refine gr_iinc C 7 (z350.2.1 + 1) [(9, .int (z350.2.1 + 1)), (8, .int x19), (0, .ref o), (1, .ref a1), (2, .int a2), (3, .int r1), (5, .int z18.2.1), (7, .int r2)] dL_arePages_450 rfl rfl (by decide) rfl ?_
                  refine gr_goto C 350 dL_arePages_453 (by decide) ?_
                  refine gr_sub [2, 3, 4, 5, 6, 7, 1, 0] rfl ?_
                  have h9 := ih350 (x19, (z350.2.1 + 1), t20) h
                  exact h9
                obtain ⟨J447, hJ447, h⟩ := h
                have k447 : ∀ t21 : LwS, J447 t21 → GR p l e (rmC 14 B t.1) s m args below meth c 14 D K E0 B b0 (gr_Q below D K E0 b0 Q args s (rmC 14 B t.1)) t21 447 [(0, .ref o), (1, .ref a1), (2, .int a2), (3, .int r1), (5, .int z18.2.1), (7, .int r2), (9, .int z350.2.1)] [] := by
                  intro t21 h
                  have h := hJ447 t21 h
                  refine gr_iconst C 0 dL_arePages_447 (by decide) ?_
                  exact k448 0 t21 h
                have kt357 : ((z350.1 = 0) ∨ (¬ (r17 = ((((4 : Int32) * r2) - 1) - ((2 : Int32) * z350.2.1))))) → GR p l e (rmC 14 B t.1) s m args below meth c 14 D K E0 B b0 (gr_Q below D K E0 b0 Q args s (rmC 14 B t.1)) t18 447 [(11, .int r18), (10, .int r17), (0, .ref o), (1, .ref a1), (2, .int a2), (3, .int r1), (5, .int z18.2.1), (7, .int r2), (8, .int z350.1), (9, .int z350.2.1)] [] := by
                  intro hc
                  have h := h.1 hc
                  refine gr_sub [2, 3, 4, 5, 6, 7, 9] rfl ?_
                  exact k447 t18 h
                have kf357 : ¬ ((z350.1 = 0) ∨ (¬ (r17 = ((((4 : Int32) * r2) - 1) - ((2 : Int32) * z350.2.1))))) → GR p l e (rmC 14 B t.1) s m args below meth c 14 D K E0 B b0 (gr_Q below D K E0 b0 Q args s (rmC 14 B t.1)) t18 400 [(11, .int r18), (10, .int r17), (0, .ref o), (1, .ref a1), (2, .int a2), (3, .int r1), (5, .int z18.2.1), (7, .int r2), (8, .int z350.1), (9, .int z350.2.1)] [] := by
                  intro hc
                  have h := h.2 hc
                  refine gr_aloadn C 2 0 dL_arePages_400 rfl rfl ?_
                  refine gr_iloadn C 4 2 dL_arePages_401 rfl rfl ?_
                  refine gr_iload C 9 dL_arePages_402 rfl ?_
                  refine gr_iconst C 1 dL_arePages_404 (by decide) ?_
                  refine gr_iconst C 0 dL_arePages_405 (by decide) ?_
                  obtain ⟨B22, hB22, hR22, h⟩ := h
                  refine gr_callW C (y := yL_sheetPage) (as := [.ref o, .int a2, .int z350.2.1, .int 1, .int 0]) (by exact ⟨Nat.le_of_ble_eq_true rfl, Nat.le_of_ble_eq_true rfl⟩) B22 hB22 hR22 (c_L_sheetPage l D K E0 b0 B22 o a2 z350.2.1 1 0 t18 _ h) hk_L_sheetPage rfl vs_L_268 kc_L_sheetPage dL_arePages_406 (Nat.le_of_ble_eq_true rfl) (fun r22 t22 h z1 z2 => ?_)
                  have h := h z1 z2
                  refine gr_iconst C 2 dL_arePages_409 (by decide) ?_
                  refine gr_iload C 9 dL_arePages_410 rfl ?_
                  refine gr_imul C dL_arePages_412 ?_
                  have kt400 : ((r22 = ((2 : Int32) * z350.2.1)) ∧ (r18 = (((2 : Int32) * z350.2.1) + 1))) → GR p l e (rmC 14 B t.1) s m args below meth c 14 D K E0 B b0 (gr_Q below D K E0 b0 Q args s (rmC 14 B t.1)) t22 427 [(11, .int r18), (10, .int r17), (0, .ref o), (1, .ref a1), (2, .int a2), (3, .int r1), (5, .int z18.2.1), (7, .int r2), (8, .int z350.1), (9, .int z350.2.1)] [] := by
                    intro hc
                    have h := h.1 hc
                    refine gr_aloadn C 2 0 dL_arePages_427 rfl rfl ?_
                    refine gr_iloadn C 4 2 dL_arePages_428 rfl rfl ?_
                    refine gr_iload C 9 dL_arePages_429 rfl ?_
                    refine gr_iconst C 0 dL_arePages_431 (by decide) ?_
                    refine gr_iconst C 0 dL_arePages_432 (by decide) ?_
                    obtain ⟨B23, hB23, hR23, h⟩ := h
                    refine gr_callW C (y := yL_sheetPage) (as := [.ref o, .int a2, .int z350.2.1, .int 0, .int 0]) (by exact ⟨Nat.le_of_ble_eq_true rfl, Nat.le_of_ble_eq_true rfl⟩) B23 hB23 hR23 (c_L_sheetPage l D K E0 b0 B23 o a2 z350.2.1 0 0 t22 _ h) hk_L_sheetPage rfl vs_L_268 kc_L_sheetPage dL_arePages_433 (Nat.le_of_ble_eq_true rfl) (fun r23 t23 h z1 z2 => ?_)
                    have h := h z1 z2
                    refine gr_iload C 1 dL_arePages_436 rfl ?_
                    refine gr_iconst C 1 dL_arePages_438 (by decide) ?_
                    refine gr_isub C dL_arePages_439 ?_
                    refine gr_icmp_ne C 447 dL_arePages_440 (by decide) (fun c440_14 => ?_) (fun c440_14 => ?_)
                    · have h := h.2 c440_14
                      refine gr_sub [2, 3, 4, 5, 6, 7, 9] rfl ?_
                      exact k447 t23 h
                    · have h := h.1 c440_14
                      refine gr_iconst C 1 dL_arePages_443 (by decide) ?_
                      refine gr_goto C 448 dL_arePages_444 (by decide) ?_
                      refine gr_sub [2, 3, 4, 5, 6, 7, 9] rfl ?_
                      exact k448 1 t23 h
                  have kf400 : ¬ ((r22 = ((2 : Int32) * z350.2.1)) ∧ (r18 = (((2 : Int32) * z350.2.1) + 1))) → GR p l e (rmC 14 B t.1) s m args below meth c 14 D K E0 B b0 (gr_Q below D K E0 b0 Q args s (rmC 14 B t.1)) t22 447 [(11, .int r18), (10, .int r17), (0, .ref o), (1, .ref a1), (2, .int a2), (3, .int r1), (5, .int z18.2.1), (7, .int r2), (8, .int z350.1), (9, .int z350.2.1)] [] := by
                    intro hc
                    have h := h.2 hc
                    refine gr_sub [2, 3, 4, 5, 6, 7, 9] rfl ?_
                    exact k447 t22 h
                  refine gr_icmp_ne C 447 dL_arePages_413 (by decide) (fun c413_12 => ?_) (fun c413_12 => ?_)
                  · exact kf400 (fun q0 => c413_12 q0.1)
                  · refine gr_iload C 0 dL_arePages_416 rfl ?_
                    refine gr_iconst C 2 dL_arePages_418 (by decide) ?_
                    refine gr_iload C 9 dL_arePages_419 rfl ?_
                    refine gr_imul C dL_arePages_421 ?_
                    refine gr_iconst C 1 dL_arePages_422 (by decide) ?_
                    refine gr_iadd C dL_arePages_423 ?_
                    refine gr_icmp_ne C 447 dL_arePages_424 (by decide) (fun c424_13 => ?_) (fun c424_13 => ?_)
                    · exact kf400 (fun q0 => c424_13 q0.2)
                    · exact kt400 ⟨c413_12, c424_13⟩
                refine gr_if_eq C 447 dL_arePages_381 (by decide) (fun c381_10 => ?_) (fun c381_10 => ?_)
                · exact kt357 (Or.inl c381_10)
                · refine gr_iload C 1 dL_arePages_384 rfl ?_
                  refine gr_iconst C 4 dL_arePages_386 (by decide) ?_
                  refine gr_iload C 7 dL_arePages_387 rfl ?_
                  refine gr_imul C dL_arePages_389 ?_
                  refine gr_iconst C 1 dL_arePages_390 (by decide) ?_
                  refine gr_isub C dL_arePages_391 ?_
                  refine gr_iconst C 2 dL_arePages_392 (by decide) ?_
                  refine gr_iload C 9 dL_arePages_393 rfl ?_
                  refine gr_imul C dL_arePages_395 ?_
                  refine gr_isub C dL_arePages_396 ?_
                  refine gr_icmp_ne C 447 dL_arePages_397 (by decide) (fun c397_11 => ?_) (fun c397_11 => ?_)
                  · exact kt357 (Or.inr c397_11)
                  · exact kf357 (fun q0 => Or.elim q0 c381_10 (fun q1 => q1 c397_11))
          exact k350 n350 (x4, 0, t5) h
        obtain ⟨J344, hJ344, h⟩ := h
        have k344 : ∀ t24 : LwS, J344 t24 → GR p l e (rmC 14 B t.1) s m args below meth c 14 D K E0 B b0 (gr_Q below D K E0 b0 Q args s (rmC 14 B t.1)) t24 344 [(0, .ref o), (1, .ref a1), (2, .int a2), (3, .int r1), (5, .int z18.2.1), (7, .int r2)] [] := by
          intro t24 h
          have h := hJ344 t24 h
          refine gr_iconst C 0 dL_arePages_344 (by decide) ?_
          exact k345 0 t24 h
        refine gr_icmp_ne C 344 dL_arePages_297 (by decide) (fun c297_15 => ?_) (fun c297_15 => ?_)
        · have h := h.2 c297_15
          refine gr_sub [1, 2, 3, 4, 6, 0] rfl ?_
          exact k344 t3 h
        · have h := h.1 c297_15
          refine gr_aloadn C 1 0 dL_arePages_300 rfl rfl ?_
          refine gr_iloadn C 3 2 dL_arePages_301 rfl rfl ?_
          obtain ⟨B25, hB25, hR25, h⟩ := h
          refine gr_callW C (y := yL_pageTurns) (as := [.ref o, .int a2]) (by exact ⟨Nat.le_of_ble_eq_true rfl, Nat.le_of_ble_eq_true rfl⟩) B25 hB25 hR25 (c_L_pageTurns l D K E0 b0 B25 o a2 t3 _ h) hk_L_pageTurns rfl vs_L_264 kc_L_pageTurns dL_arePages_302 (Nat.le_of_ble_eq_true rfl) (fun r25 t25 h z1 z2 => ?_)
          have h := h z1 z2
          refine gr_iload C 6 dL_arePages_305 rfl ?_
          refine gr_icmp_ne C 344 dL_arePages_307 (by decide) (fun c307_16 => ?_) (fun c307_16 => ?_)
          · have h := h.2 c307_16
            refine gr_sub [1, 2, 3, 4, 6, 0] rfl ?_
            exact k344 t25 h
          · have h := h.1 c307_16
            refine gr_aloadn C 1 0 dL_arePages_310 rfl rfl ?_
            refine gr_iloadn C 3 2 dL_arePages_311 rfl rfl ?_
            obtain ⟨B26, hB26, hR26, h⟩ := h
            refine gr_callW C (y := yL_badTurns) (as := [.ref o, .int a2]) (by exact ⟨Nat.le_of_ble_eq_true rfl, Nat.le_of_ble_eq_true rfl⟩) B26 hB26 hR26 (c_L_badTurns l D K E0 b0 B26 o a2 t25 _ h) hk_L_badTurns rfl vs_L_266 kc_L_badTurns dL_arePages_312 (Nat.le_of_ble_eq_true rfl) (fun r26 t26 h z1 z2 => ?_)
            have h := h z1 z2
            refine gr_iload C 7 dL_arePages_315 rfl ?_
            refine gr_icmp_lt C 344 dL_arePages_317 (by decide) (fun c317_17 => ?_) (fun c317_17 => ?_)
            · have h := h.1 c317_17
              refine gr_sub [1, 2, 3, 4, 6, 0] rfl ?_
              exact k344 t26 h
            · have h := h.2 c317_17
              refine gr_aloadn C 1 0 dL_arePages_320 rfl rfl ?_
              refine gr_iloadn C 3 2 dL_arePages_321 rfl rfl ?_
              obtain ⟨B27, hB27, hR27, h⟩ := h
              refine gr_callW C (y := yL_badTurns) (as := [.ref o, .int a2]) (by exact ⟨Nat.le_of_ble_eq_true rfl, Nat.le_of_ble_eq_true rfl⟩) B27 hB27 hR27 (c_L_badTurns l D K E0 b0 B27 o a2 t26 _ h) hk_L_badTurns rfl vs_L_266 kc_L_badTurns dL_arePages_322 (Nat.le_of_ble_eq_true rfl) (fun r27 t27 h z1 z2 => ?_)
              have h := h z1 z2
              refine gr_iload C 6 dL_arePages_325 rfl ?_
              have kt320 : ((z18.2.1 < r27) ∨ (¬ (r2 = ((r1 + 3) / 4)))) → GR p l e (rmC 14 B t.1) s m args below meth c 14 D K E0 B b0 (gr_Q below D K E0 b0 Q args s (rmC 14 B t.1)) t27 344 [(7, .int r2), (0, .ref o), (1, .ref a1), (2, .int a2), (3, .int r1), (4, .int z18.1), (5, .int z18.2.1), (6, .int z18.2.2.1)] [] := by
                intro hc
                have h := h.1 hc
                refine gr_sub [1, 2, 3, 4, 6, 0] rfl ?_
                exact k344 t27 h
              have kf320 : ¬ ((z18.2.1 < r27) ∨ (¬ (r2 = ((r1 + 3) / 4)))) → GR p l e (rmC 14 B t.1) s m args below meth c 14 D K E0 B b0 (gr_Q below D K E0 b0 Q args s (rmC 14 B t.1)) t27 340 [(7, .int r2), (0, .ref o), (1, .ref a1), (2, .int a2), (3, .int r1), (4, .int z18.1), (5, .int z18.2.1), (6, .int z18.2.2.1)] [] := by
                intro hc
                have h := h.2 hc
                refine gr_iconst C 1 dL_arePages_340 (by decide) ?_
                refine gr_goto C 345 dL_arePages_341 (by decide) ?_
                refine gr_sub [1, 2, 3, 4, 6, 0] rfl ?_
                exact k345 1 t27 h
              refine gr_icmp_gt C 344 dL_arePages_327 (by decide) (fun c327_18 => ?_) (fun c327_18 => ?_)
              · exact kt320 (Or.inl c327_18)
              · refine gr_iload C 0 dL_arePages_330 rfl ?_
                refine gr_iloadn C 4 3 dL_arePages_332 rfl rfl ?_
                refine gr_iconst C 3 dL_arePages_333 (by decide) ?_
                refine gr_iadd C dL_arePages_334 ?_
                refine gr_iconst C 4 dL_arePages_335 (by decide) ?_
                refine gr_idiv C dL_arePages_336 (by decide) ?_
                refine gr_icmp_ne C 344 dL_arePages_337 (by decide) (fun c337_19 => ?_) (fun c337_19 => ?_)
                · exact kt320 (Or.inr c337_19)
                · exact kf320 (fun q0 => Or.elim q0 c327_18 (fun q1 => q1 c337_19))
      · have h := h.2 c21_1
        refine gr_aloadn C 0 0 dL_arePages_24 rfl rfl ?_
        refine gr_iloadn C 2 2 dL_arePages_25 rfl rfl ?_
        refine gr_iload C 7 dL_arePages_26 rfl ?_
        obtain ⟨B28, hB28, hR28, h⟩ := h
        refine gr_callW C (y := yL_pageLines) (as := [.ref o, .int a2, .int z18.2.2.2.1]) (by exact ⟨Nat.le_of_ble_eq_true rfl, Nat.le_of_ble_eq_true rfl⟩) B28 hB28 hR28 (c_L_pageLines l D K E0 b0 B28 o a2 z18.2.2.2.1 z18.2.2.2.2 _ h) hk_L_pageLines rfl vs_L_252 kc_L_pageLines dL_arePages_28 (Nat.le_of_ble_eq_true rfl) (fun r28 t28 h z1 z2 => ?_)
        have h := h z1 z2
        refine gr_istore C [(8, .int r28), (0, .ref o), (1, .ref a1), (2, .int a2), (3, .int r1), (4, .int z18.1), (5, .int z18.2.1), (6, .int z18.2.2.1), (7, .int z18.2.2.2.1)] dL_arePages_31 (by decide) rfl ?_
        refine gr_iload C 8 dL_arePages_33 rfl ?_
        refine gr_iconst C 1 dL_arePages_35 (by decide) ?_
        refine gr_iadd C dL_arePages_36 ?_
        refine gr_iloadn C 4 3 dL_arePages_37 rfl rfl ?_
        obtain ⟨J54, hJ54, h⟩ := h
        have k54 : ∀ x29 : Int32, ∀ t30 : LwS, J54 x29 t30 → GR p l e (rmC 14 B t.1) s m args below meth c 14 D K E0 B b0 (gr_Q below D K E0 b0 Q args s (rmC 14 B t.1)) t30 54 [(0, .ref o), (1, .ref a1), (2, .int a2), (3, .int r1), (4, .int z18.1), (5, .int z18.2.1), (6, .int z18.2.2.1), (7, .int z18.2.2.2.1), (8, .int r28)] [.int x29] := by
          intro x29 t30 h
          have h := hJ54 x29 t30 h
          refine gr_istore C [(9, .int x29), (0, .ref o), (1, .ref a1), (2, .int a2), (3, .int r1), (4, .int z18.1), (5, .int z18.2.1), (6, .int z18.2.2.1), (7, .int z18.2.2.2.1), (8, .int r28)] dL_arePages_54 (by decide) rfl ?_
          refine gr_iload C 9 dL_arePages_56 rfl ?_
          obtain ⟨g31, h⟩ := h
          have kt54 : ((r28 < 0) ∨ (((rG t30.2 a1 (Int32.toNatClampNeg 2)) < r28) ∨ ((r28 = 0) ∧ (((z18.2.2.2.1 + 1) = r1) ∨ (x29 = 0))))) → GR p l e (rmC 14 B t.1) s m args below meth c 14 D K E0 B b0 (gr_Q below D K E0 b0 Q args s (rmC 14 B t.1)) t30 87 [(9, .int x29), (0, .ref o), (1, .ref a1), (2, .int a2), (3, .int r1), (4, .int z18.1), (5, .int z18.2.1), (6, .int z18.2.2.1), (7, .int z18.2.2.2.1), (8, .int r28)] [] := by
            intro hc
            have h := h.1 hc
            refine gr_iconst C 0 dL_arePages_87 (by decide) ?_
            exact gr_zret C E (Or.inl rfl) dL_arePages_88 h
          have kf54 : ¬ ((r28 < 0) ∨ (((rG t30.2 a1 (Int32.toNatClampNeg 2)) < r28) ∨ ((r28 = 0) ∧ (((z18.2.2.2.1 + 1) = r1) ∨ (x29 = 0))))) → GR p l e (rmC 14 B t.1) s m args below meth c 14 D K E0 B b0 (gr_Q below D K E0 b0 Q args s (rmC 14 B t.1)) t30 89 [(9, .int x29), (0, .ref o), (1, .ref a1), (2, .int a2), (3, .int r1), (4, .int z18.1), (5, .int z18.2.1), (6, .int z18.2.2.1), (7, .int z18.2.2.2.1), (8, .int r28)] [] := by
            intro hc
            have h := h.2 hc
            refine gr_iload C 5 dL_arePages_89 rfl ?_
            refine gr_iload C 9 dL_arePages_91 rfl ?_
            refine gr_iadd C dL_arePages_93 ?_
            refine gr_nameI (fun x32 ex32 => ?_)
            have h := h x32 ex32
            refine gr_istore C [(4, .int x32), (9, .int x29), (0, .ref o), (1, .ref a1), (2, .int a2), (3, .int r1), (5, .int z18.2.1), (6, .int z18.2.2.1), (7, .int z18.2.2.2.1), (8, .int r28)] dL_arePages_94 (by decide) rfl ?_
            refine gr_iload C 8 dL_arePages_96 rfl ?_
            refine gr_iconst C 1 dL_arePages_98 (by decide) ?_
            refine gr_iadd C dL_arePages_99 ?_
            refine gr_iloadn C 5 3 dL_arePages_100 rfl rfl ?_
            obtain ⟨J277, hJ277, h⟩ := h
            have k277 : ∀ x33 : Int32, ∀ x34 : Int32, ∀ t35 : LwS, J277 x33 x34 t35 → GR p l e (rmC 14 B t.1) s m args below meth c 14 D K E0 B b0 (gr_Q below D K E0 b0 Q args s (rmC 14 B t.1)) t35 277 [(0, .ref o), (1, .ref a1), (2, .int a2), (3, .int r1), (4, .int x32), (5, .int x33), (6, .int x34), (7, .int z18.2.2.2.1)] [] := by
              intro x33 x34 t35 h
              have h := hJ277 x33 x34 t35 h
              refine gr_iinc C 7 (z18.2.2.2.1 + 1) [(7, .int (z18.2.2.2.1 + 1)), (0, .ref o), (1, .ref a1), (2, .int a2), (3, .int r1), (4, .int x32), (5, .int x33), (6, .int x34)] dL_arePages_277 rfl rfl (by decide) rfl ?_
              refine gr_goto C 18 dL_arePages_280 (by decide) ?_
              refine gr_sub [1, 2, 3, 4, 5, 6, 7, 0] rfl ?_
              have h9 := ih18 (x32, x33, x34, (z18.2.2.2.1 + 1), t35) h
              exact h9
            have kt89 : ((r1 ≤ (z18.2.2.2.1 + 1)) ∨ ((r28 ≤ 0) ∨ ((¬ ((mRem z18.2.2.2.1 2) = 0)) ∧ (¬ (x29 = 0))))) → GR p l e (rmC 14 B t.1) s m args below meth c 14 D K E0 B b0 (gr_Q below D K E0 b0 Q args s (rmC 14 B t.1)) t30 277 [(4, .int x32), (9, .int x29), (0, .ref o), (1, .ref a1), (2, .int a2), (3, .int r1), (5, .int z18.2.1), (6, .int z18.2.2.1), (7, .int z18.2.2.2.1), (8, .int r28)] [] := by
              intro hc
              have h := h.1 hc
              refine gr_sub [2, 3, 4, 5, 0, 6, 7, 8] rfl ?_
              exact k277 z18.2.1 z18.2.2.1 t30 h
            have kf89 : ¬ ((r1 ≤ (z18.2.2.2.1 + 1)) ∨ ((r28 ≤ 0) ∨ ((¬ ((mRem z18.2.2.2.1 2) = 0)) ∧ (¬ (x29 = 0))))) → GR p l e (rmC 14 B t.1) s m args below meth c 14 D K E0 B b0 (gr_Q below D K E0 b0 Q args s (rmC 14 B t.1)) t30 121 [(4, .int x32), (9, .int x29), (0, .ref o), (1, .ref a1), (2, .int a2), (3, .int r1), (5, .int z18.2.1), (6, .int z18.2.2.1), (7, .int z18.2.2.2.1), (8, .int r28)] [] := by
              intro hc
              have h := h.2 hc
              refine gr_aloadn C 2 0 dL_arePages_121 rfl rfl ?_
              refine gr_iloadn C 4 2 dL_arePages_122 rfl rfl ?_
              refine gr_iload C 0 dL_arePages_123 rfl ?_
              obtain ⟨B36, hB36, hR36, h⟩ := h
              refine gr_callW C (y := yL_firstItem) (as := [.ref o, .int a2, .int x32]) (by exact ⟨Nat.le_of_ble_eq_true rfl, Nat.le_of_ble_eq_true rfl⟩) B36 hB36 hR36 (c_L_firstItem l D K E0 b0 B36 o a2 x32 t30 _ h) hk_L_firstItem rfl vs_L_246 kc_L_firstItem dL_arePages_125 (Nat.le_of_ble_eq_true rfl) (fun r36 t36 h z1 z2 => ?_)
              have h := h z1 z2
              refine gr_istore C [(10, .int r36), (4, .int x32), (9, .int x29), (0, .ref o), (1, .ref a1), (2, .int a2), (3, .int r1), (5, .int z18.2.1), (6, .int z18.2.2.1), (7, .int z18.2.2.2.1), (8, .int r28)] dL_arePages_128 (by decide) rfl ?_
              refine gr_aloadn C 3 0 dL_arePages_130 rfl rfl ?_
              refine gr_iloadn C 5 2 dL_arePages_131 rfl rfl ?_
              refine gr_iload C 0 dL_arePages_132 rfl ?_
              obtain ⟨B37, hB37, hR37, h⟩ := h
              refine gr_callW C (y := yL_itemBar) (as := [.ref o, .int a2, .int r36]) (by exact ⟨Nat.le_of_ble_eq_true rfl, Nat.le_of_ble_eq_true rfl⟩) B37 hB37 hR37 (c_L_itemBar l D K E0 b0 B37 o a2 r36 t36 _ h) hk_L_itemBar rfl vs_L_232 kc_L_itemBar dL_arePages_134 (Nat.le_of_ble_eq_true rfl) (fun r37 t37 h z1 z2 => ?_)
              have h := h z1 z2
              refine gr_iconst C 1 dL_arePages_137 (by decide) ?_
              refine gr_isub C dL_arePages_138 ?_
              refine gr_nameI (fun x38 ex38 => ?_)
              have h := h x38 ex38
              refine gr_istore C [(11, .int x38), (10, .int r36), (4, .int x32), (9, .int x29), (0, .ref o), (1, .ref a1), (2, .int a2), (3, .int r1), (5, .int z18.2.1), (6, .int z18.2.2.1), (7, .int z18.2.2.2.1), (8, .int r28)] dL_arePages_139 (by decide) rfl ?_
              refine gr_aloadn C 4 0 dL_arePages_141 rfl rfl ?_
              refine gr_iloadn C 6 2 dL_arePages_142 rfl rfl ?_
              refine gr_iload C 8 dL_arePages_143 rfl ?_
              obtain ⟨B39, hB39, hR39, h⟩ := h
              refine gr_callW C (y := yL_turnRest) (as := [.ref o, .int a2, .int z18.2.1]) (by exact ⟨Nat.le_of_ble_eq_true rfl, Nat.le_of_ble_eq_true rfl⟩) B39 hB39 hR39 (c_L_turnRest l D K E0 b0 B39 o a2 z18.2.1 t37 _ h) hk_L_turnRest rfl vs_L_254 kc_L_turnRest dL_arePages_145 (Nat.le_of_ble_eq_true rfl) (fun r39 t39 h z1 z2 => ?_)
              have h := h z1 z2
              refine gr_istore C [(12, .int r39), (11, .int x38), (10, .int r36), (4, .int x32), (9, .int x29), (0, .ref o), (1, .ref a1), (2, .int a2), (3, .int r1), (5, .int z18.2.1), (6, .int z18.2.2.1), (7, .int z18.2.2.2.1), (8, .int r28)] dL_arePages_148 (by decide) rfl ?_
              refine gr_iconst C 0 dL_arePages_150 (by decide) ?_
              refine gr_istore C [(13, .int 0), (12, .int r39), (11, .int x38), (10, .int r36), (4, .int x32), (9, .int x29), (0, .ref o), (1, .ref a1), (2, .int a2), (3, .int r1), (5, .int z18.2.1), (6, .int z18.2.2.1), (7, .int z18.2.2.2.1), (8, .int r28)] dL_arePages_151 (by decide) rfl ?_
              refine gr_sub [6, 7, 8, 9, 4, 10, 11, 12, 5, 2, 1, 0] rfl ?_
              obtain ⟨n153, h⟩ := h
              have k153 : ∀ (n153 : Nat) (z153 : Int32 × LwS), lp (w_L_arePages_L153 B o a1 a2 Q z18 x29 J277 x38 r39) n153 z153 → GR p l e (rmC 14 B t.1) s m args below meth c 14 D K E0 B b0 (gr_Q below D K E0 b0 Q args s (rmC 14 B t.1)) z153.2 153 [(0, .ref o), (1, .ref a1), (2, .int a2), (3, .int r1), (4, .int x32), (5, .int z18.2.1), (6, .int z18.2.2.1), (7, .int z18.2.2.2.1), (9, .int x29), (11, .int x38), (12, .int r39), (13, .int z153.1)] [] := by
                intro n153
                induction n153 with
                | zero => intro z153 h; exact h.elim
                | succ n153 ih153 =>
                  intro z153 h
                  have h : w_L_arePages_L153 B o a1 a2 Q z18 x29 J277 x38 r39 (lp (w_L_arePages_L153 B o a1 a2 Q z18 x29 J277 x38 r39) n153) z153 := h
                  unfold w_L_arePages_L153 at h
                  refine gr_aloadn C 0 0 dL_arePages_153 rfl rfl ?_
                  refine gr_iload C 11 dL_arePages_154 rfl ?_
                  obtain ⟨B40, hB40, hR40, h⟩ := h
                  refine gr_callW C (y := yL_barAt) (as := [.ref o, .int z153.1]) (by exact ⟨Nat.le_of_ble_eq_true rfl, Nat.le_of_ble_eq_true rfl⟩) B40 hB40 hR40 (c_L_barAt l D K E0 b0 B40 o z153.1 z153.2 _ h) hk_L_barAt rfl vs_L_184 kc_L_barAt dL_arePages_156 (Nat.le_of_ble_eq_true rfl) (fun r40 t40 h z1 z2 => ?_)
                  have h := h z1 z2
                  refine gr_iload C 9 dL_arePages_159 rfl ?_
                  refine gr_iconst C 1 dL_arePages_161 (by decide) ?_
                  refine gr_iadd C dL_arePages_162 ?_
                  refine gr_icmp_eq C 172 dL_arePages_163 (by decide) (fun c163_29 => ?_) (fun c163_29 => ?_)
                  · have h := h.1 c163_29
                    refine gr_aloadn C 0 0 dL_arePages_172 rfl rfl ?_
                    refine gr_iloadn C 2 2 dL_arePages_173 rfl rfl ?_
                    refine gr_iload C 5 dL_arePages_174 rfl ?_
                    obtain ⟨B41, hB41, hR41, h⟩ := h
                    refine gr_callW C (y := yL_turnBar) (as := [.ref o, .int a2, .int z18.2.1]) (by exact ⟨Nat.le_of_ble_eq_true rfl, Nat.le_of_ble_eq_true rfl⟩) B41 hB41 hR41 (c_L_turnBar l D K E0 b0 B41 o a2 z18.2.1 t40 _ h) hk_L_turnBar rfl vs_L_256 kc_L_turnBar dL_arePages_176 (Nat.le_of_ble_eq_true rfl) (fun r41 t41 h z1 z2 => ?_)
                    have h := h z1 z2
                    refine gr_iload C 9 dL_arePages_179 rfl ?_
                    obtain ⟨J254, hJ254, h⟩ := h
                    have k254 : ∀ t42 : LwS, J254 t42 → GR p l e (rmC 14 B t.1) s m args below meth c 14 D K E0 B b0 (gr_Q below D K E0 b0 Q args s (rmC 14 B t.1)) t42 254 [] [] := by
                      intro t42 h
                      have h := hJ254 t42 h
                      refine gr_iconst C 0 dL_arePages_254 (by decide) ?_
                      exact gr_zret C E (Or.inl rfl) dL_arePages_255 h
                    refine gr_icmp_ne C 254 dL_arePages_181 (by decide) (fun c181_30 => ?_) (fun c181_30 => ?_)
                    · have h := h.2 c181_30
                      refine gr_sub [] rfl ?_
                      exact k254 t41 h
                    · have h := h.1 c181_30
                      refine gr_aloadn C 0 0 dL_arePages_184 rfl rfl ?_
                      refine gr_iloadn C 2 2 dL_arePages_185 rfl rfl ?_
                      refine gr_iload C 5 dL_arePages_186 rfl ?_
                      obtain ⟨B43, hB43, hR43, h⟩ := h
                      refine gr_callW C (y := yL_turnTime) (as := [.ref o, .int a2, .int z18.2.1]) (by exact ⟨Nat.le_of_ble_eq_true rfl, Nat.le_of_ble_eq_true rfl⟩) B43 hB43 hR43 (c_L_turnTime l D K E0 b0 B43 o a2 z18.2.1 t41 _ h) hk_L_turnTime rfl vs_L_258 kc_L_turnTime dL_arePages_188 (Nat.le_of_ble_eq_true rfl) (fun r43 t43 h z1 z2 => ?_)
                      have h := h z1 z2
                      refine gr_aloadn C 0 0 dL_arePages_191 rfl rfl ?_
                      refine gr_iload C 11 dL_arePages_192 rfl ?_
                      obtain ⟨B44, hB44, hR44, h⟩ := h
                      refine gr_callW C (y := yL_startOf) (as := [.ref o, .int z153.1]) (by exact ⟨Nat.le_of_ble_eq_true rfl, Nat.le_of_ble_eq_true rfl⟩) B44 hB44 hR44 (c_L_startOf l D K E0 b0 B44 o z153.1 t43 _ h) hk_L_startOf rfl vs_L_189 kc_L_startOf dL_arePages_194 (Nat.le_of_ble_eq_true rfl) (fun r44 t44 h z1 z2 => ?_)
                      have h := h z1 z2
                      have kt184 : ((¬ (r43 = r44)) ∨ (r39 < 0)) → GR p l e (rmC 14 B t.1) s m args below meth c 14 D K E0 B b0 (gr_Q below D K E0 b0 Q args s (rmC 14 B t.1)) t44 254 [(0, .ref o), (1, .ref a1), (2, .int a2), (3, .int r1), (4, .int x32), (5, .int z18.2.1), (6, .int z18.2.2.1), (7, .int z18.2.2.2.1), (9, .int x29), (11, .int x38), (12, .int r39), (13, .int z153.1)] [] := by
                        intro hc
                        have h := h.1 hc
                        refine gr_sub [] rfl ?_
                        exact k254 t44 h
                      have kf184 : ¬ ((¬ (r43 = r44)) ∨ (r39 < 0)) → GR p l e (rmC 14 B t.1) s m args below meth c 14 D K E0 B b0 (gr_Q below D K E0 b0 Q args s (rmC 14 B t.1)) t44 205 [(0, .ref o), (1, .ref a1), (2, .int a2), (3, .int r1), (4, .int x32), (5, .int z18.2.1), (6, .int z18.2.2.1), (7, .int z18.2.2.2.1), (9, .int x29), (11, .int x38), (12, .int r39), (13, .int z153.1)] [] := by
                        intro hc
                        have h := h.2 hc
                        refine gr_iload C 10 dL_arePages_205 rfl ?_
                        refine gr_aloadn C 0 0 dL_arePages_207 rfl rfl ?_
                        obtain ⟨hk45, h⟩ := h
                        obtain ⟨B45, hB45, hR45, h⟩ := h
                        refine gr_call C (y := yX11_playingTime) (as := []) (by exact ⟨Nat.le_of_ble_eq_true rfl, Nat.le_of_ble_eq_true rfl⟩) B45 hB45 hR45 (c_X11_playingTime l D K E0 B45 _ o t44.1 _ _ h) hk_X11_playingTime rfl vl_L_197 kc_X11_playingTime (isC_of hk45 (by decide)) dL_arePages_208 (Nat.le_of_ble_eq_true rfl) (fun _ _ h => h.elim) ?_
                        rintro v S' ⟨r45, rfl, h⟩ _ z1 z2
                        have h := h z1 z2
                        obtain ⟨t45, et45⟩ : ∃ q : LwS, q = (S', t44.2) := ⟨_, rfl⟩
                        rw [← et45] at h ⊢
                        refine gr_icmp_gt C 254 dL_arePages_211 (by decide) (fun c211_33 => ?_) (fun c211_33 => ?_)
                        · have h := h.1 c211_33
                          refine gr_sub [] rfl ?_
                          exact k254 t45 h
                        · have h := h.2 c211_33
                          refine gr_aloadn C 0 0 dL_arePages_214 rfl rfl ?_
                          refine gr_iloadn C 2 2 dL_arePages_215 rfl rfl ?_
                          refine gr_iload C 9 dL_arePages_216 rfl ?_
                          obtain ⟨B46, hB46, hR46, h⟩ := h
                          refine gr_callW C (y := yL_pageOf) (as := [.ref o, .int a2, .int x38]) (by exact ⟨Nat.le_of_ble_eq_true rfl, Nat.le_of_ble_eq_true rfl⟩) B46 hB46 hR46 (c_L_pageOf l D K E0 b0 B46 o a2 x38 t45 _ h) hk_L_pageOf rfl vs_L_260 kc_L_pageOf dL_arePages_218 (Nat.le_of_ble_eq_true rfl) (fun r46 t46 h z1 z2 => ?_)
                          have h := h z1 z2
                          refine gr_iload C 7 dL_arePages_221 rfl ?_
                          refine gr_icmp_ne C 254 dL_arePages_223 (by decide) (fun c223_34 => ?_) (fun c223_34 => ?_)
                          · have h := h.2 c223_34
                            refine gr_sub [] rfl ?_
                            exact k254 t46 h
                          · have h := h.1 c223_34
                            refine gr_aloadn C 0 0 dL_arePages_226 rfl rfl ?_
                            refine gr_iloadn C 2 2 dL_arePages_227 rfl rfl ?_
                            refine gr_iload C 9 dL_arePages_228 rfl ?_
                            refine gr_iconst C 1 dL_arePages_230 (by decide) ?_
                            refine gr_iadd C dL_arePages_231 ?_
                            obtain ⟨B47, hB47, hR47, h⟩ := h
                            refine gr_callW C (y := yL_pageOf) (as := [.ref o, .int a2, .int (x38 + 1)]) (by exact ⟨Nat.le_of_ble_eq_true rfl, Nat.le_of_ble_eq_true rfl⟩) B47 hB47 hR47 (c_L_pageOf l D K E0 b0 B47 o a2 (x38 + 1) t46 _ h) hk_L_pageOf rfl vs_L_260 kc_L_pageOf dL_arePages_232 (Nat.le_of_ble_eq_true rfl) (fun r47 t47 h z1 z2 => ?_)
                            have h := h z1 z2
                            refine gr_iload C 8 dL_arePages_235 rfl ?_
                            have k251 : ∀ x48 : Int32, x48 = (if x29 = 0 then (z18.2.2.2.1 + 2) else (z18.2.2.2.1 + 1)) → GR p l e (rmC 14 B t.1) s m args below meth c 14 D K E0 B b0 (gr_Q below D K E0 b0 Q args s (rmC 14 B t.1)) t47 251 [(0, .ref o), (1, .ref a1), (2, .int a2), (3, .int r1), (4, .int x32), (5, .int z18.2.1), (6, .int z18.2.2.1), (7, .int z18.2.2.2.1), (12, .int r39)] [.int x48, .int r47] := by
                              intro x48 ex48
                              have h := h x48 ex48
                              refine gr_icmp_eq C 256 dL_arePages_251 (by decide) (fun c251_36 => ?_) (fun c251_36 => ?_)
                              · have h := h.1 c251_36
                                refine gr_iload C 6 dL_arePages_256 rfl ?_
                                refine gr_iload C 8 dL_arePages_258 rfl ?_
                                refine gr_aloadn C 1 1 dL_arePages_260 rfl rfl ?_
                                refine gr_iconst C 3 dL_arePages_261 (by decide) ?_
                                obtain ⟨g49, h⟩ := h
                                refine gr_iald C g49 dL_arePages_262 ?_
                                have k271 : ∀ x50 : Int32, x50 = (if ¬ ((rG t47.2 a1 (Int32.toNatClampNeg 3)) ≤ r39) then 1 else 0) → GR p l e (rmC 14 B t.1) s m args below meth c 14 D K E0 B b0 (gr_Q below D K E0 b0 Q args s (rmC 14 B t.1)) t47 271 [(0, .ref o), (1, .ref a1), (2, .int a2), (3, .int r1), (4, .int x32), (5, .int z18.2.1), (7, .int z18.2.2.2.1)] [.int x50, .int z18.2.2.1] := by
                                  intro x50 ex50
                                  have h := h x50 ex50
                                  refine gr_iadd C dL_arePages_271 ?_
                                  refine gr_nameI (fun x51 ex51 => ?_)
                                  have h := h x51 ex51
                                  refine gr_istore C [(6, .int x51), (0, .ref o), (1, .ref a1), (2, .int a2), (3, .int r1), (4, .int x32), (5, .int z18.2.1), (7, .int z18.2.2.2.1)] dL_arePages_272 (by decide) rfl ?_
                                  refine gr_iinc C 6 (z18.2.1 + 1) [(5, .int (z18.2.1 + 1)), (6, .int x51), (0, .ref o), (1, .ref a1), (2, .int a2), (3, .int r1), (4, .int x32), (7, .int z18.2.2.2.1)] dL_arePages_274 rfl rfl (by decide) rfl ?_
                                  refine gr_sub [2, 3, 4, 5, 6, 0, 1, 7] rfl ?_
                                  exact k277 (z18.2.1 + 1) x51 t47 h
                                refine gr_icmp_ge C 270 dL_arePages_263 (by decide) (fun c263_37 => ?_) (fun c263_37 => ?_)
                                · refine gr_iconst C 0 dL_arePages_270 (by decide) ?_
                                  refine gr_sub [0, 1, 2, 3, 4, 5, 7] rfl ?_
                                  exact k271 _ ((if_neg (fun q0 => q0 c263_37)).symm)
                                · refine gr_iconst C 1 dL_arePages_266 (by decide) ?_
                                  refine gr_goto C 271 dL_arePages_267 (by decide) ?_
                                  refine gr_sub [0, 1, 2, 3, 4, 5, 7] rfl ?_
                                  exact k271 _ ((if_pos c263_37).symm)
                              · have h := h.2 c251_36
                                refine gr_sub [] rfl ?_
                                exact k254 t47 h
                            refine gr_if_ne C 247 dL_arePages_237 (by decide) (fun c237_35 => ?_) (fun c237_35 => ?_)
                            · refine gr_iload C 7 dL_arePages_247 rfl ?_
                              refine gr_iconst C 1 dL_arePages_249 (by decide) ?_
                              refine gr_iadd C dL_arePages_250 ?_
                              refine gr_sub [0, 1, 2, 3, 4, 5, 6, 7, 10] rfl ?_
                              exact k251 _ ((if_neg c237_35).symm)
                            · refine gr_iload C 7 dL_arePages_240 rfl ?_
                              refine gr_iconst C 2 dL_arePages_242 (by decide) ?_
                              refine gr_iadd C dL_arePages_243 ?_
                              refine gr_goto C 251 dL_arePages_244 (by decide) ?_
                              refine gr_sub [0, 1, 2, 3, 4, 5, 6, 7, 10] rfl ?_
                              exact k251 _ ((if_pos c237_35).symm)
                      refine gr_icmp_ne C 254 dL_arePages_197 (by decide) (fun c197_31 => ?_) (fun c197_31 => ?_)
                      · exact kt184 (Or.inl c197_31)
                      · refine gr_iload C 10 dL_arePages_200 rfl ?_
                        refine gr_if_lt C 254 dL_arePages_202 (by decide) (fun c202_32 => ?_) (fun c202_32 => ?_)
                        · exact kt184 (Or.inr c202_32)
                        · exact kf184 (fun q0 => Or.elim q0 (fun r => r c197_31) c202_32)
                  · have h := h.2 c163_29
                    refine gr_iinc C 11 (z153.1 + 1) [(13, .int (z153.1 + 1)), (0, .ref o), (1, .ref a1), (2, .int a2), (3, .int r1), (4, .int x32), (5, .int z18.2.1), (6, .int z18.2.2.1), (7, .int z18.2.2.2.1), (9, .int x29), (11, .int x38), (12, .int r39)] dL_arePages_166 rfl rfl (by decide) rfl ?_
                    refine gr_goto C 153 dL_arePages_169 (by decide) ?_
                    refine gr_sub [1, 2, 3, 4, 5, 6, 7, 8, 9, 10, 11, 0] rfl ?_
                    have h9 := ih153 ((z153.1 + 1), t40) h
                    exact h9
              exact k153 n153 (0, t39) h
            refine gr_icmp_ge C 277 dL_arePages_101 (by decide) (fun c101_25 => ?_) (fun c101_25 => ?_)
            · exact kt89 (Or.inl c101_25)
            · refine gr_iload C 9 dL_arePages_104 rfl ?_
              refine gr_if_le C 277 dL_arePages_106 (by decide) (fun c106_26 => ?_) (fun c106_26 => ?_)
              · exact kt89 (Or.inr (Or.inl c106_26))
              · refine gr_iload C 8 dL_arePages_109 rfl ?_
                refine gr_iconst C 2 dL_arePages_111 (by decide) ?_
                refine gr_irem C dL_arePages_112 (by decide) ?_
                refine gr_if_eq C 121 dL_arePages_113 (by decide) (fun c113_27 => ?_) (fun c113_27 => ?_)
                · exact kf89 (fun q0 => Or.elim q0 c101_25 (fun q1 => Or.elim q1 c106_26 (fun q2 => q2.1 c113_27)))
                · refine gr_iload C 1 dL_arePages_116 rfl ?_
                  refine gr_if_ne C 277 dL_arePages_118 (by decide) (fun c118_28 => ?_) (fun c118_28 => ?_)
                  · exact kt89 (Or.inr (Or.inr ⟨c113_27, c118_28⟩))
                  · exact kf89 (fun q0 => Or.elim q0 c101_25 (fun q1 => Or.elim q1 c106_26 (fun q2 => (fun q3 => q3 c118_28) q2.2)))
          refine gr_if_lt C 87 dL_arePages_58 (by decide) (fun c58_20 => ?_) (fun c58_20 => ?_)
          · exact kt54 (Or.inl c58_20)
          · refine gr_iload C 9 dL_arePages_61 rfl ?_
            refine gr_aloadn C 2 1 dL_arePages_63 rfl rfl ?_
            refine gr_iconst C 2 dL_arePages_64 (by decide) ?_
            refine gr_iald C (g31 c58_20) dL_arePages_65 ?_
            refine gr_icmp_gt C 87 dL_arePages_66 (by decide) (fun c66_21 => ?_) (fun c66_21 => ?_)
            · exact kt54 (Or.inr (Or.inl c66_21))
            · refine gr_iload C 9 dL_arePages_69 rfl ?_
              refine gr_if_ne C 89 dL_arePages_71 (by decide) (fun c71_22 => ?_) (fun c71_22 => ?_)
              · exact kf54 (fun q0 => Or.elim q0 c58_20 (fun q1 => Or.elim q1 c66_21 (fun q2 => c71_22 q2.1)))
              · refine gr_iload C 8 dL_arePages_74 rfl ?_
                refine gr_iconst C 1 dL_arePages_76 (by decide) ?_
                refine gr_iadd C dL_arePages_77 ?_
                refine gr_iloadn C 4 3 dL_arePages_78 rfl rfl ?_
                refine gr_icmp_eq C 87 dL_arePages_79 (by decide) (fun c79_23 => ?_) (fun c79_23 => ?_)
                · exact kt54 (Or.inr (Or.inr ⟨c71_22, (Or.inl c79_23)⟩))
                · refine gr_iload C 0 dL_arePages_82 rfl ?_
                  refine gr_if_ne C 89 dL_arePages_84 (by decide) (fun c84_24 => ?_) (fun c84_24 => ?_)
                  · exact kf54 (fun q0 => Or.elim q0 c58_20 (fun q1 => Or.elim q1 c66_21 (fun q2 => (fun q3 => Or.elim q3 c79_23 c84_24) q2.2)))
                  · exact kt54 (Or.inr (Or.inr ⟨c71_22, (Or.inr c84_24)⟩))
        refine gr_icmp_ge C 53 dL_arePages_38 (by decide) (fun c38_38 => ?_) (fun c38_38 => ?_)
        · have h := h.1 c38_38
          refine gr_iconst C 1 dL_arePages_53 (by decide) ?_
          refine gr_sub [1, 2, 3, 4, 5, 6, 7, 8, 0] rfl ?_
          exact k54 1 t28 h
        · have h := h.2 c38_38
          refine gr_aloadn C 1 0 dL_arePages_41 rfl rfl ?_
          refine gr_iloadn C 3 2 dL_arePages_42 rfl rfl ?_
          refine gr_iload C 8 dL_arePages_43 rfl ?_
          refine gr_iconst C 1 dL_arePages_45 (by decide) ?_
          refine gr_iadd C dL_arePages_46 ?_
          obtain ⟨B52, hB52, hR52, h⟩ := h
          refine gr_callW C (y := yL_pageLines) (as := [.ref o, .int a2, .int (z18.2.2.2.1 + 1)]) (by exact ⟨Nat.le_of_ble_eq_true rfl, Nat.le_of_ble_eq_true rfl⟩) B52 hB52 hR52 (c_L_pageLines l D K E0 b0 B52 o a2 (z18.2.2.2.1 + 1) t28 _ h) hk_L_pageLines rfl vs_L_252 kc_L_pageLines dL_arePages_47 (Nat.le_of_ble_eq_true rfl) (fun r52 t52 h z1 z2 => ?_)
          have h := h z1 z2
          refine gr_goto C 54 dL_arePages_50 (by decide) ?_
          refine gr_sub [1, 2, 3, 4, 5, 6, 7, 8, 0] rfl ?_
          exact k54 r52 t52 h
  exact k18 n18 (0, 0, 0, 0, t1) h
