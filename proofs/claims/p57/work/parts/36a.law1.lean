/-! THE LAW'S METHODS (1) -/
def v_L_low (a0 : Int32) (a1 : Int32) : Int32 := (mRem (a0 &&& 2147483647) a1)
def d_L_low (a0 : Int32) (a1 : Int32) : Prop := (¬ a1 = 0)
set_option maxRecDepth 20000 in
theorem c_L_low (l : Launch) (D : va_G) (K : Nat → ClassId) (E0 b0 : Nat) (B : Nat × Nat) (a0 : Int32) (a1 : Int32) (t : LwS) (h : d_L_low a0 a1) : MetR l yL_low (.code yL_low cL_low 2 (some .int)) 0 [.int a0, .int a1] (fun r t' => r = v_L_low a0 a1 ∧ t' = t) D K E0 b0 B t := by
  have u1 := h
  refine gr_start (by decide) rfl (Nat.le_of_ble_eq_true rfl) (fun p e s m args below meth c C E => ?_)
  refine gr_iloadn C 0 0 dL_low_0 rfl rfl ?_
  refine gr_ldc C 2147483647 v_i915 dL_low_1 ?_
  refine gr_iand C dL_low_3 ?_
  refine gr_iloadn C 1 1 dL_low_4 rfl rfl ?_
  refine gr_irem C dL_low_5 u1 ?_
  exact gr_iret C E dL_low_6 ⟨rfl, rfl⟩
def v_L_ticksOf (a0 : Int32) (a1 : Int32) : Int32 := (if a1 = 1 then ((((96 : Int32) >>> (a0 &&& 31)) * 3) / 2) else (if a1 = 2 then ((((96 : Int32) >>> (a0 &&& 31)) * 2) / 3) else ((96 : Int32) >>> (a0 &&& 31))))
set_option maxRecDepth 20000 in
theorem c_L_ticksOf (l : Launch) (D : va_G) (K : Nat → ClassId) (E0 b0 : Nat) (B : Nat × Nat) (a0 : Int32) (a1 : Int32) (t : LwS) : MetR l yL_ticksOf (.code yL_ticksOf cL_ticksOf 3 (some .int)) 0 [.int a0, .int a1] (fun r t' => r = v_L_ticksOf a0 a1 ∧ t' = t) D K E0 b0 B t := by
  refine gr_start (by decide) rfl (Nat.le_of_ble_eq_true rfl) (fun p e s m args below meth c C E => ?_)
  refine gr_bipush C 96 dL_ticksOf_0 (by decide) ?_
  refine gr_iloadn C 0 0 dL_ticksOf_2 rfl rfl ?_
  refine gr_ishr C dL_ticksOf_3 ?_
  refine gr_istoren C 2 [(2, .int ((96 : Int32) >>> (a0 &&& 31))), (0, .int a0), (1, .int a1)] dL_ticksOf_4 rfl (by decide) rfl ?_
  refine gr_iloadn C 2 1 dL_ticksOf_5 rfl rfl ?_
  refine gr_iconst C 1 dL_ticksOf_6 (by decide) ?_
  refine gr_icmp_ne C 18 dL_ticksOf_7 (by decide) (fun c7_1 => ?_) (fun c7_1 => ?_)
  · refine gr_iloadn C 2 1 dL_ticksOf_18 rfl rfl ?_
    refine gr_iconst C 2 dL_ticksOf_19 (by decide) ?_
    refine gr_icmp_ne C 31 dL_ticksOf_20 (by decide) (fun c20_2 => ?_) (fun c20_2 => ?_)
    · refine gr_iloadn C 0 2 dL_ticksOf_31 rfl rfl ?_
      exact gr_iret C E dL_ticksOf_32 ⟨(((Eq.trans (if_neg c7_1) (if_neg c20_2))).symm), rfl⟩
    · refine gr_iloadn C 0 2 dL_ticksOf_23 rfl rfl ?_
      refine gr_iconst C 2 dL_ticksOf_24 (by decide) ?_
      refine gr_imul C dL_ticksOf_25 ?_
      refine gr_iconst C 3 dL_ticksOf_26 (by decide) ?_
      refine gr_idiv C dL_ticksOf_27 (by decide) ?_
      refine gr_goto C 32 dL_ticksOf_28 (by decide) ?_
      exact gr_iret C E dL_ticksOf_32 ⟨(((Eq.trans (if_neg c7_1) (if_pos c20_2))).symm), rfl⟩
  · refine gr_iloadn C 0 2 dL_ticksOf_10 rfl rfl ?_
    refine gr_iconst C 3 dL_ticksOf_11 (by decide) ?_
    refine gr_imul C dL_ticksOf_12 ?_
    refine gr_iconst C 2 dL_ticksOf_13 (by decide) ?_
    refine gr_idiv C dL_ticksOf_14 (by decide) ?_
    refine gr_goto C 32 dL_ticksOf_15 (by decide) ?_
    exact gr_iret C E dL_ticksOf_32 ⟨(((if_pos c7_1)).symm), rfl⟩
def w_L_isPlayed_L166 (B : Nat × Nat) (o : Nat) (a1 : Nat) (z10 : Int32 × Int32 × LwS) (K154 : (Int32 × Int32 × LwS) → Prop) (z154 : Int32 × Int32 × LwS) (K166 : (Int32 × Int32 × LwS) → Prop) (z166 : Int32 × Int32 × LwS) : Prop := (vp_in 0 (rN z166.2.2.2 a1)) ∧ (((rG z166.2.2.2 a1 (Int32.toNatClampNeg 0)) ≤ z166.2.1) → lcall B z166.2.2 (fun B1 K => w_L_timeByEvents B1 o z154.2.1 z166.2.2 K) (fun r16 t16 => ∃ J279 : Int32 → LwS → Prop, (∀ x17 : Int32, ∀ t18 : LwS, J279 x17 t18 → (K154 (x17, (z154.2.1 + 1), t18))) ∧ ∃ J278 : LwS → Prop, (∀ t19 : LwS, J278 t19 → (J279 0 t19)) ∧ ((((z154.1 = 0) ∨ ((r16 < 0) ∨ ((z10.1 < r16) ∨ ((¬ (z166.1 = 0)) ∧ (¬ (r16 = z10.1)))))) → J278 t16) ∧ (¬ ((z154.1 = 0) ∨ ((r16 < 0) ∨ ((z10.1 < r16) ∨ ((¬ (z166.1 = 0)) ∧ (¬ (r16 = z10.1)))))) → lcall B t16 (fun B1 K => w_L_items B1 o z154.2.1 t16 K) (fun r20 t20 => ∀ x21 : Int32, x21 = (if r20 = (-1000003) then 1 else 0) → (vp_in 0 (rN t20.2 a1)) ∧ ∀ x23 : Int32, x23 = (if ((rG t20.2 a1 (Int32.toNatClampNeg 0)) = 0) ∨ (z166.1 = 0) then 1 else 0) → ((x21 = x23) → J279 1 t20) ∧ (¬ (x21 = x23) → J278 t20)))))) ∧ (¬ ((rG z166.2.2.2 a1 (Int32.toNatClampNeg 0)) ≤ z166.2.1) → ∃ J196 : Int32 → LwS → Prop, (∀ x24 : Int32, ∀ t25 : LwS, J196 x24 t25 → (K166 (x24, (z166.2.1 + 1), t25))) ∧ ∃ J195 : LwS → Prop, (∀ t26 : LwS, J195 t26 → (J196 0 t26)) ∧ (((z166.1 = 0) → J195 z166.2.2) ∧ (¬ (z166.1 = 0) → lcall B z166.2.2 (fun B1 K => w_L_isRight B1 o z154.2.1 z166.2.1 z166.2.2 K) (fun r27 t27 => ((r27 = 1) → J196 1 t27) ∧ (¬ (r27 = 1) → J195 t27)))))
def w_L_isPlayed_L154 (B : Nat × Nat) (o : Nat) (a1 : Nat) (Q : Int32 → LwS → Prop) (z10 : Int32 × Int32 × LwS) (K154 : (Int32 × Int32 × LwS) → Prop) (z154 : Int32 × Int32 × LwS) : Prop := ((4 ≤ z154.2.1) → ∃ J341 : Int32 → LwS → Prop, (∀ x5 : Int32, ∀ t6 : LwS, J341 x5 t6 → ((gb x5) ∧ Q x5 t6)) ∧ ∃ J340 : LwS → Prop, (∀ t8 : LwS, J340 t8 → (J341 0 t8)) ∧ (((z154.1 = 0) → J340 z154.2.2) ∧ (¬ (z154.1 = 0) → lcall B z154.2.2 (fun B1 K => w_L_timeByEvents B1 o 4 z154.2.2 K) (fun r9 t9 => ((r9 = (-1000002)) → (vp_in 0 (rN t9.2 a1)) ∧ lcall B t9 (fun B1 K => w_L_time B1 o (rG t9.2 a1 (Int32.toNatClampNeg 0)) t9 K) (fun r11 t11 => ((r11 = (-1000001)) → lcall B t11 (fun B1 K => w_L_length B1 o (-1) t11 K) (fun r12 t12 => ((r12 = (-1000001)) → (vp_in 0 (rN t12.2 a1)) ∧ lcall B t12 (fun B1 K => w_L_tempo B1 o (rG t12.2 a1 (Int32.toNatClampNeg 0)) t12 K) (fun r14 t14 => ((r14 = (-1000001)) → J341 1 t14) ∧ (¬ (r14 = (-1000001)) → J340 t14))) ∧ (¬ (r12 = (-1000001)) → J340 t12))) ∧ (¬ (r11 = (-1000001)) → J340 t11))) ∧ (¬ (r9 = (-1000002)) → J340 t9))))) ∧ (¬ (4 ≤ z154.2.1) → ∃ n, lp (w_L_isPlayed_L166 B o a1 z10 K154 z154) n (1, 0, z154.2.2))
def w_L_isPlayed_L10 (B : Nat × Nat) (o : Nat) (a1 : Nat) (Q : Int32 → LwS → Prop) (r1 : Int32) (K10 : (Int32 × Int32 × LwS) → Prop) (z10 : Int32 × Int32 × LwS) : Prop := ((r1 ≤ z10.2.1) → (kdC z10.2.2.1 o = 14) ∧ lcall B z10.2.2 (fun B1 K => w_X11_playingTime B1 o z10.2.2.1 (fun r S' => K r (S', z10.2.2.2)) (fun _ _ => False)) (fun r2 t2 => ∃ J149 : Int32 → LwS → Prop, (∀ x3 : Int32, ∀ t4 : LwS, J149 x3 t4 → (∃ n, lp (w_L_isPlayed_L154 B o a1 Q z10) n (x3, 0, t4))) ∧ ∃ J148 : LwS → Prop, (∀ t28 : LwS, J148 t28 → (J149 0 t28)) ∧ (((r2 = z10.1) → vp_in 0 (rN t2.2 a1)) ∧ ((r2 = z10.1) → (¬ (r1 < (rG t2.2 a1 (Int32.toNatClampNeg 0)))) → vp_in 0 (rN t2.2 a1)) ∧ (((¬ (r2 = z10.1)) ∨ ((r1 < (rG t2.2 a1 (Int32.toNatClampNeg 0))) ∨ (((2 : Int32) * (rG t2.2 a1 (Int32.toNatClampNeg 0))) < r1))) → J148 t2) ∧ (¬ ((¬ (r2 = z10.1)) ∨ ((r1 < (rG t2.2 a1 (Int32.toNatClampNeg 0))) ∨ (((2 : Int32) * (rG t2.2 a1 (Int32.toNatClampNeg 0))) < r1))) → lcall B t2 (fun B1 K => w_L_barAt B1 o r1 t2 K) (fun r31 t31 => ((r31 = (-1000001)) → lcall B t31 (fun B1 K => w_L_startOf B1 o (-1) t31 K) (fun r32 t32 => ((r32 = (-1000001)) → (kdC t32.1 o = 14) ∧ (d_X11_bars o t32.1) ∧ (vp_in 0 (rN t32.2 a1)) ∧ (((v_X11_bars o t32.1) = (rG t32.2 a1 (Int32.toNatClampNeg 0))) → J149 1 t32) ∧ (¬ ((v_X11_bars o t32.1) = (rG t32.2 a1 (Int32.toNatClampNeg 0))) → J148 t32)) ∧ (¬ (r32 = (-1000001)) → J148 t32))) ∧ (¬ (r31 = (-1000001)) → J148 t31)))))) ∧ (¬ (r1 ≤ z10.2.1) → lcall B z10.2.2 (fun B1 K => w_L_barAt B1 o z10.2.1 z10.2.2 K) (fun r36 t36 => ∃ J73 : LwS → Prop, (∀ t37 : LwS, J73 t37 → (Q 0 t37)) ∧ (((¬ (r36 < 0)) → vp_in 0 (rN t36.2 a1)) ∧ (((r36 < 0) ∨ ((rG t36.2 a1 (Int32.toNatClampNeg 0)) ≤ r36)) → J73 t36) ∧ (¬ ((r36 < 0) ∨ ((rG t36.2 a1 (Int32.toNatClampNeg 0)) ≤ r36)) → lcall B t36 (fun B1 K => w_L_startOf B1 o z10.2.1 t36 K) (fun r39 t39 => ((r39 = z10.1) → lcall B t39 (fun B1 K => w_L_time B1 o r36 t39 K) (fun r40 t40 => lcall B t40 (fun B1 K => w_L_length B1 o r36 t40 K) (fun r41 t41 => lcall B t41 (fun B1 K => w_L_tempo B1 o r36 t41 K) (fun r42 t42 => (¬ r42 = 0) ∧ ((r40 = ((r41 * 2500) / r42)) → lcall B t42 (fun B1 K => w_L_time B1 o r36 t42 K) (fun r44 t44 => ∀ x45 : Int32, x45 = (z10.1 + r44) → K10 (x45, (z10.2.1 + 1), t44))) ∧ (¬ (r40 = ((r41 * 2500) / r42)) → J73 t42))))) ∧ (¬ (r39 = z10.1) → J73 t39))))))
def w_L_isPlayed (B : Nat × Nat) (o : Nat) (a1 : Nat) (t : LwS) (Q : Int32 → LwS → Prop) : Prop := (kdC t.1 o = 14) ∧ lcall B t (fun B1 K => w_X11_places B1 o t.1 (fun r S' => K r (S', t.2)) (fun _ _ => False)) (fun r1 t1 => ∃ n, lp (w_L_isPlayed_L10 B o a1 Q r1) n (0, 0, t1))
set_option maxRecDepth 20000 in
set_option maxHeartbeats 4000000 in
theorem c_L_isPlayed (l : Launch) (D : va_G) (K : Nat → ClassId) (E0 b0 : Nat) (B : Nat × Nat) (o : Nat) (a1 : Nat) (t : LwS) (Q : Int32 → LwS → Prop) (h : w_L_isPlayed B o a1 t Q) : MetR l yL_isPlayed (.code yL_isPlayed cL_isPlayed 8 (some .boolean)) 14 [.ref o, .ref a1] Q D K E0 b0 B t := by
  unfold w_L_isPlayed at h
  refine gr_start (by decide) rfl (Nat.le_of_ble_eq_true rfl) (fun p e s m args below meth c C E => ?_)
  refine gr_iconst C 0 dL_isPlayed_0 (by decide) ?_
  refine gr_istoren C 2 [(2, .int 0), (0, .ref o), (1, .ref a1)] dL_isPlayed_1 rfl (by decide) rfl ?_
  refine gr_aloadn C 1 0 dL_isPlayed_2 rfl rfl ?_
  obtain ⟨hk1, h⟩ := h
  obtain ⟨B1, hB1, hR1, h⟩ := h
  refine gr_call C (y := yX11_places) (as := []) (by exact ⟨Nat.le_of_ble_eq_true rfl, Nat.le_of_ble_eq_true rfl⟩) B1 hB1 hR1 (c_X11_places l D K E0 B1 _ o t.1 _ _ h) hk_X11_places rfl vl_L_180 kc_X11_places (isC_of hk1 (by decide)) dL_isPlayed_3 (Nat.le_of_ble_eq_true rfl) (fun _ _ h => h.elim) ?_
  rintro v S' ⟨r1, rfl, h⟩ _ z1 z2
  have h := h z1 z2
  obtain ⟨t1, et1⟩ : ∃ q : LwS, q = (S', t.2) := ⟨_, rfl⟩
  rw [← et1] at h ⊢
  refine gr_istoren C 3 [(3, .int r1), (2, .int 0), (0, .ref o), (1, .ref a1)] dL_isPlayed_6 rfl (by decide) rfl ?_
  refine gr_iconst C 0 dL_isPlayed_7 (by decide) ?_
  refine gr_istore C [(4, .int 0), (3, .int r1), (2, .int 0), (0, .ref o), (1, .ref a1)] dL_isPlayed_8 (by decide) rfl ?_
  refine gr_sub [3, 4, 2, 1, 0] rfl ?_
  obtain ⟨n10, h⟩ := h
  have k10 : ∀ (n10 : Nat) (z10 : Int32 × Int32 × LwS), lp (w_L_isPlayed_L10 B o a1 Q r1) n10 z10 → GR p l e (rmC 14 B t.1) s m args below meth c 8 D K E0 B b0 (gr_Q below D K E0 b0 Q args s (rmC 14 B t.1)) z10.2.2 10 [(0, .ref o), (1, .ref a1), (2, .int z10.1), (3, .int r1), (4, .int z10.2.1)] [] := by
    intro n10
    induction n10 with
    | zero => intro z10 h; exact h.elim
    | succ n10 ih10 =>
      intro z10 h
      have h : w_L_isPlayed_L10 B o a1 Q r1 (lp (w_L_isPlayed_L10 B o a1 Q r1) n10) z10 := h
      unfold w_L_isPlayed_L10 at h
      refine gr_iload C 4 dL_isPlayed_10 rfl ?_
      refine gr_iloadn C 3 3 dL_isPlayed_12 rfl rfl ?_
      refine gr_icmp_ge C 90 dL_isPlayed_13 (by decide) (fun c13_1 => ?_) (fun c13_1 => ?_)
      · have h := h.1 c13_1
        refine gr_aloadn C 0 0 dL_isPlayed_90 rfl rfl ?_
        obtain ⟨hk2, h⟩ := h
        obtain ⟨B2, hB2, hR2, h⟩ := h
        refine gr_call C (y := yX11_playingTime) (as := []) (by exact ⟨Nat.le_of_ble_eq_true rfl, Nat.le_of_ble_eq_true rfl⟩) B2 hB2 hR2 (c_X11_playingTime l D K E0 B2 _ o z10.2.2.1 _ _ h) hk_X11_playingTime rfl vl_L_197 kc_X11_playingTime (isC_of hk2 (by decide)) dL_isPlayed_91 (Nat.le_of_ble_eq_true rfl) (fun _ _ h => h.elim) ?_
        rintro v S' ⟨r2, rfl, h⟩ _ z1 z2
        have h := h z1 z2
        obtain ⟨t2, et2⟩ : ∃ q : LwS, q = (S', z10.2.2.2) := ⟨_, rfl⟩
        rw [← et2] at h ⊢
        refine gr_iloadn C 2 2 dL_isPlayed_94 rfl rfl ?_
        obtain ⟨J149, hJ149, h⟩ := h
        have k149 : ∀ x3 : Int32, ∀ t4 : LwS, J149 x3 t4 → GR p l e (rmC 14 B t.1) s m args below meth c 8 D K E0 B b0 (gr_Q below D K E0 b0 Q args s (rmC 14 B t.1)) t4 149 [(0, .ref o), (1, .ref a1), (2, .int z10.1)] [.int x3] := by
          intro x3 t4 h
          have h := hJ149 x3 t4 h
          refine gr_istore C [(4, .int x3), (0, .ref o), (1, .ref a1), (2, .int z10.1)] dL_isPlayed_149 (by decide) rfl ?_
          refine gr_iconst C 0 dL_isPlayed_151 (by decide) ?_
          refine gr_istore C [(5, .int 0), (4, .int x3), (0, .ref o), (1, .ref a1), (2, .int z10.1)] dL_isPlayed_152 (by decide) rfl ?_
          refine gr_sub [2, 3, 4, 1, 0] rfl ?_
          obtain ⟨n154, h⟩ := h
          have k154 : ∀ (n154 : Nat) (z154 : Int32 × Int32 × LwS), lp (w_L_isPlayed_L154 B o a1 Q z10) n154 z154 → GR p l e (rmC 14 B t.1) s m args below meth c 8 D K E0 B b0 (gr_Q below D K E0 b0 Q args s (rmC 14 B t.1)) z154.2.2 154 [(0, .ref o), (1, .ref a1), (2, .int z10.1), (4, .int z154.1), (5, .int z154.2.1)] [] := by
            intro n154
            induction n154 with
            | zero => intro z154 h; exact h.elim
            | succ n154 ih154 =>
              intro z154 h
              have h : w_L_isPlayed_L154 B o a1 Q z10 (lp (w_L_isPlayed_L154 B o a1 Q z10) n154) z154 := h
              unfold w_L_isPlayed_L154 at h
              refine gr_iload C 4 dL_isPlayed_154 rfl ?_
              refine gr_iconst C 4 dL_isPlayed_156 (by decide) ?_
              refine gr_icmp_ge C 287 dL_isPlayed_157 (by decide) (fun c157_2 => ?_) (fun c157_2 => ?_)
              · have h := h.1 c157_2
                refine gr_iload C 3 dL_isPlayed_287 rfl ?_
                obtain ⟨J341, hJ341, h⟩ := h
                have k341 : ∀ x5 : Int32, ∀ t6 : LwS, J341 x5 t6 → GR p l e (rmC 14 B t.1) s m args below meth c 8 D K E0 B b0 (gr_Q below D K E0 b0 Q args s (rmC 14 B t.1)) t6 341 [] [.int x5] := by
                  intro x5 t6 h
                  have h := hJ341 x5 t6 h
                  obtain ⟨g7, h⟩ := h
                  exact gr_zret C E g7 dL_isPlayed_341 h
                obtain ⟨J340, hJ340, h⟩ := h
                have k340 : ∀ t8 : LwS, J340 t8 → GR p l e (rmC 14 B t.1) s m args below meth c 8 D K E0 B b0 (gr_Q below D K E0 b0 Q args s (rmC 14 B t.1)) t8 340 [] [] := by
                  intro t8 h
                  have h := hJ340 t8 h
                  refine gr_iconst C 0 dL_isPlayed_340 (by decide) ?_
                  exact k341 0 t8 h
                refine gr_if_eq C 340 dL_isPlayed_289 (by decide) (fun c289_3 => ?_) (fun c289_3 => ?_)
                · have h := h.1 c289_3
                  refine gr_sub [] rfl ?_
                  exact k340 z154.2.2 h
                · have h := h.2 c289_3
                  refine gr_aloadn C 0 0 dL_isPlayed_292 rfl rfl ?_
                  refine gr_iconst C 4 dL_isPlayed_293 (by decide) ?_
                  obtain ⟨B9, hB9, hR9, h⟩ := h
                  refine gr_callW C (y := yL_timeByEvents) (as := [.ref o, .int 4]) (by exact ⟨Nat.le_of_ble_eq_true rfl, Nat.le_of_ble_eq_true rfl⟩) B9 hB9 hR9 (c_L_timeByEvents l D K E0 b0 B9 o 4 z154.2.2 _ h) hk_L_timeByEvents rfl vs_L_206 kc_L_timeByEvents dL_isPlayed_294 (Nat.le_of_ble_eq_true rfl) (fun r9 t9 h z1 z2 => ?_)
                  have h := h z1 z2
                  refine gr_ldc C (-1000002) v_i617 dL_isPlayed_297 ?_
                  refine gr_icmp_ne C 340 dL_isPlayed_299 (by decide) (fun c299_4 => ?_) (fun c299_4 => ?_)
                  · have h := h.2 c299_4
                    refine gr_sub [] rfl ?_
                    exact k340 t9 h
                  · have h := h.1 c299_4
                    refine gr_aloadn C 0 0 dL_isPlayed_302 rfl rfl ?_
                    refine gr_aloadn C 1 1 dL_isPlayed_303 rfl rfl ?_
                    refine gr_iconst C 0 dL_isPlayed_304 (by decide) ?_
                    obtain ⟨g10, h⟩ := h
                    refine gr_iald C g10 dL_isPlayed_305 ?_
                    obtain ⟨B11, hB11, hR11, h⟩ := h
                    refine gr_callW C (y := yL_time) (as := [.ref o, .int (rG t9.2 a1 (Int32.toNatClampNeg 0))]) (by exact ⟨Nat.le_of_ble_eq_true rfl, Nat.le_of_ble_eq_true rfl⟩) B11 hB11 hR11 (c_L_time l D K E0 b0 B11 o (rG t9.2 a1 (Int32.toNatClampNeg 0)) t9 _ h) hk_L_time rfl vs_L_191 kc_L_time dL_isPlayed_306 (Nat.le_of_ble_eq_true rfl) (fun r11 t11 h z1 z2 => ?_)
                    have h := h z1 z2
                    refine gr_ldc C (-1000001) v_i533 dL_isPlayed_309 ?_
                    refine gr_icmp_ne C 340 dL_isPlayed_311 (by decide) (fun c311_5 => ?_) (fun c311_5 => ?_)
                    · have h := h.2 c311_5
                      refine gr_sub [] rfl ?_
                      exact k340 t11 h
                    · have h := h.1 c311_5
                      refine gr_aloadn C 0 0 dL_isPlayed_314 rfl rfl ?_
                      refine gr_iconst C (-1) dL_isPlayed_315 (by decide) ?_
                      obtain ⟨B12, hB12, hR12, h⟩ := h
                      refine gr_callW C (y := yL_length) (as := [.ref o, .int (-1)]) (by exact ⟨Nat.le_of_ble_eq_true rfl, Nat.le_of_ble_eq_true rfl⟩) B12 hB12 hR12 (c_L_length l D K E0 b0 B12 o (-1) t11 _ h) hk_L_length rfl vs_L_193 kc_L_length dL_isPlayed_316 (Nat.le_of_ble_eq_true rfl) (fun r12 t12 h z1 z2 => ?_)
                      have h := h z1 z2
                      refine gr_ldc C (-1000001) v_i533 dL_isPlayed_319 ?_
                      refine gr_icmp_ne C 340 dL_isPlayed_321 (by decide) (fun c321_6 => ?_) (fun c321_6 => ?_)
                      · have h := h.2 c321_6
                        refine gr_sub [] rfl ?_
                        exact k340 t12 h
                      · have h := h.1 c321_6
                        refine gr_aloadn C 0 0 dL_isPlayed_324 rfl rfl ?_
                        refine gr_aloadn C 1 1 dL_isPlayed_325 rfl rfl ?_
                        refine gr_iconst C 0 dL_isPlayed_326 (by decide) ?_
                        obtain ⟨g13, h⟩ := h
                        refine gr_iald C g13 dL_isPlayed_327 ?_
                        obtain ⟨B14, hB14, hR14, h⟩ := h
                        refine gr_callW C (y := yL_tempo) (as := [.ref o, .int (rG t12.2 a1 (Int32.toNatClampNeg 0))]) (by exact ⟨Nat.le_of_ble_eq_true rfl, Nat.le_of_ble_eq_true rfl⟩) B14 hB14 hR14 (c_L_tempo l D K E0 b0 B14 o (rG t12.2 a1 (Int32.toNatClampNeg 0)) t12 _ h) hk_L_tempo rfl vs_L_195 kc_L_tempo dL_isPlayed_328 (Nat.le_of_ble_eq_true rfl) (fun r14 t14 h z1 z2 => ?_)
                        have h := h z1 z2
                        refine gr_ldc C (-1000001) v_i533 dL_isPlayed_331 ?_
                        refine gr_icmp_ne C 340 dL_isPlayed_333 (by decide) (fun c333_7 => ?_) (fun c333_7 => ?_)
                        · have h := h.2 c333_7
                          refine gr_sub [] rfl ?_
                          exact k340 t14 h
                        · have h := h.1 c333_7
                          refine gr_iconst C 1 dL_isPlayed_336 (by decide) ?_
                          refine gr_goto C 341 dL_isPlayed_337 (by decide) ?_
                          refine gr_sub [] rfl ?_
                          exact k341 1 t14 h
              · have h := h.2 c157_2
                refine gr_iconst C 1 dL_isPlayed_160 (by decide) ?_
                refine gr_istore C [(6, .int 1), (0, .ref o), (1, .ref a1), (2, .int z10.1), (4, .int z154.1), (5, .int z154.2.1)] dL_isPlayed_161 (by decide) rfl ?_
                refine gr_iconst C 0 dL_isPlayed_163 (by decide) ?_
                refine gr_istore C [(7, .int 0), (6, .int 1), (0, .ref o), (1, .ref a1), (2, .int z10.1), (4, .int z154.1), (5, .int z154.2.1)] dL_isPlayed_164 (by decide) rfl ?_
                refine gr_sub [2, 3, 4, 5, 6, 1, 0] rfl ?_
                obtain ⟨n166, h⟩ := h
                have k166 : ∀ (n166 : Nat) (z166 : Int32 × Int32 × LwS), lp (w_L_isPlayed_L166 B o a1 z10 (lp (w_L_isPlayed_L154 B o a1 Q z10) n154) z154) n166 z166 → GR p l e (rmC 14 B t.1) s m args below meth c 8 D K E0 B b0 (gr_Q below D K E0 b0 Q args s (rmC 14 B t.1)) z166.2.2 166 [(0, .ref o), (1, .ref a1), (2, .int z10.1), (4, .int z154.1), (5, .int z154.2.1), (6, .int z166.1), (7, .int z166.2.1)] [] := by
                  intro n166
                  induction n166 with
                  | zero => intro z166 h; exact h.elim
                  | succ n166 ih166 =>
                    intro z166 h
                    have h : w_L_isPlayed_L166 B o a1 z10 (lp (w_L_isPlayed_L154 B o a1 Q z10) n154) z154 (lp (w_L_isPlayed_L166 B o a1 z10 (lp (w_L_isPlayed_L154 B o a1 Q z10) n154) z154) n166) z166 := h
                    unfold w_L_isPlayed_L166 at h
                    refine gr_iload C 6 dL_isPlayed_166 rfl ?_
                    refine gr_aloadn C 1 1 dL_isPlayed_168 rfl rfl ?_
                    refine gr_iconst C 0 dL_isPlayed_169 (by decide) ?_
                    obtain ⟨g15, h⟩ := h
                    refine gr_iald C g15 dL_isPlayed_170 ?_
                    refine gr_icmp_ge C 204 dL_isPlayed_171 (by decide) (fun c171_8 => ?_) (fun c171_8 => ?_)
                    · have h := h.1 c171_8
                      refine gr_aloadn C 0 0 dL_isPlayed_204 rfl rfl ?_
                      refine gr_iload C 4 dL_isPlayed_205 rfl ?_
                      obtain ⟨B16, hB16, hR16, h⟩ := h
                      refine gr_callW C (y := yL_timeByEvents) (as := [.ref o, .int z154.2.1]) (by exact ⟨Nat.le_of_ble_eq_true rfl, Nat.le_of_ble_eq_true rfl⟩) B16 hB16 hR16 (c_L_timeByEvents l D K E0 b0 B16 o z154.2.1 z166.2.2 _ h) hk_L_timeByEvents rfl vs_L_206 kc_L_timeByEvents dL_isPlayed_207 (Nat.le_of_ble_eq_true rfl) (fun r16 t16 h z1 z2 => ?_)
                      have h := h z1 z2
                      refine gr_istore C [(7, .int r16), (0, .ref o), (1, .ref a1), (2, .int z10.1), (4, .int z154.1), (5, .int z154.2.1), (6, .int z166.1)] dL_isPlayed_210 (by decide) rfl ?_
                      refine gr_iload C 4 dL_isPlayed_212 rfl ?_
                      obtain ⟨J279, hJ279, h⟩ := h
                      have k279 : ∀ x17 : Int32, ∀ t18 : LwS, J279 x17 t18 → GR p l e (rmC 14 B t.1) s m args below meth c 8 D K E0 B b0 (gr_Q below D K E0 b0 Q args s (rmC 14 B t.1)) t18 279 [(0, .ref o), (1, .ref a1), (2, .int z10.1), (5, .int z154.2.1)] [.int x17] := by
                        intro x17 t18 h
                        have h := hJ279 x17 t18 h
                        refine gr_istore C [(4, .int x17), (0, .ref o), (1, .ref a1), (2, .int z10.1), (5, .int z154.2.1)] dL_isPlayed_279 (by decide) rfl ?_
                        refine gr_iinc C 4 (z154.2.1 + 1) [(5, .int (z154.2.1 + 1)), (4, .int x17), (0, .ref o), (1, .ref a1), (2, .int z10.1)] dL_isPlayed_281 rfl rfl (by decide) rfl ?_
                        refine gr_goto C 154 dL_isPlayed_284 (by decide) ?_
                        refine gr_sub [2, 3, 4, 1, 0] rfl ?_
                        have h9 := ih154 (x17, (z154.2.1 + 1), t18) h
                        exact h9
                      obtain ⟨J278, hJ278, h⟩ := h
                      have k278 : ∀ t19 : LwS, J278 t19 → GR p l e (rmC 14 B t.1) s m args below meth c 8 D K E0 B b0 (gr_Q below D K E0 b0 Q args s (rmC 14 B t.1)) t19 278 [(0, .ref o), (1, .ref a1), (2, .int z10.1), (5, .int z154.2.1)] [] := by
                        intro t19 h
                        have h := hJ278 t19 h
                        refine gr_iconst C 0 dL_isPlayed_278 (by decide) ?_
                        exact k279 0 t19 h
                      have kt204 : ((z154.1 = 0) ∨ ((r16 < 0) ∨ ((z10.1 < r16) ∨ ((¬ (z166.1 = 0)) ∧ (¬ (r16 = z10.1)))))) → GR p l e (rmC 14 B t.1) s m args below meth c 8 D K E0 B b0 (gr_Q below D K E0 b0 Q args s (rmC 14 B t.1)) t16 278 [(7, .int r16), (0, .ref o), (1, .ref a1), (2, .int z10.1), (4, .int z154.1), (5, .int z154.2.1), (6, .int z166.1)] [] := by
                        intro hc
                        have h := h.1 hc
                        refine gr_sub [1, 2, 3, 5] rfl ?_
                        exact k278 t16 h
                      have kf204 : ¬ ((z154.1 = 0) ∨ ((r16 < 0) ∨ ((z10.1 < r16) ∨ ((¬ (z166.1 = 0)) ∧ (¬ (r16 = z10.1)))))) → GR p l e (rmC 14 B t.1) s m args below meth c 8 D K E0 B b0 (gr_Q below D K E0 b0 Q args s (rmC 14 B t.1)) t16 239 [(7, .int r16), (0, .ref o), (1, .ref a1), (2, .int z10.1), (4, .int z154.1), (5, .int z154.2.1), (6, .int z166.1)] [] := by
                        intro hc
                        have h := h.2 hc
                        refine gr_aloadn C 1 0 dL_isPlayed_239 rfl rfl ?_
                        refine gr_iload C 5 dL_isPlayed_240 rfl ?_
                        obtain ⟨B20, hB20, hR20, h⟩ := h
                        refine gr_callW C (y := yL_items) (as := [.ref o, .int z154.2.1]) (by exact ⟨Nat.le_of_ble_eq_true rfl, Nat.le_of_ble_eq_true rfl⟩) B20 hB20 hR20 (c_L_items l D K E0 b0 B20 o z154.2.1 t16 _ h) hk_L_items rfl vs_L_208 kc_L_items dL_isPlayed_242 (Nat.le_of_ble_eq_true rfl) (fun r20 t20 h z1 z2 => ?_)
                        have h := h z1 z2
                        refine gr_ldc C (-1000003) v_i908 dL_isPlayed_245 ?_
                        have k255 : ∀ x21 : Int32, x21 = (if r20 = (-1000003) then 1 else 0) → GR p l e (rmC 14 B t.1) s m args below meth c 8 D K E0 B b0 (gr_Q below D K E0 b0 Q args s (rmC 14 B t.1)) t20 255 [(0, .ref o), (1, .ref a1), (2, .int z10.1), (5, .int z154.2.1), (6, .int z166.1)] [.int x21] := by
                          intro x21 ex21
                          have h := h x21 ex21
                          refine gr_aloadn C 1 1 dL_isPlayed_255 rfl rfl ?_
                          refine gr_iconst C 0 dL_isPlayed_256 (by decide) ?_
                          obtain ⟨g22, h⟩ := h
                          refine gr_iald C g22 dL_isPlayed_257 ?_
                          have k271 : ∀ x23 : Int32, x23 = (if ((rG t20.2 a1 (Int32.toNatClampNeg 0)) = 0) ∨ (z166.1 = 0) then 1 else 0) → GR p l e (rmC 14 B t.1) s m args below meth c 8 D K E0 B b0 (gr_Q below D K E0 b0 Q args s (rmC 14 B t.1)) t20 271 [(0, .ref o), (1, .ref a1), (2, .int z10.1), (5, .int z154.2.1)] [.int x23, .int x21] := by
                            intro x23 ex23
                            have h := h x23 ex23
                            refine gr_icmp_ne C 278 dL_isPlayed_271 (by decide) (fun c271_17 => ?_) (fun c271_17 => ?_)
                            · have h := h.2 c271_17
                              exact k278 t20 h
                            · have h := h.1 c271_17
                              refine gr_iconst C 1 dL_isPlayed_274 (by decide) ?_
                              refine gr_goto C 279 dL_isPlayed_275 (by decide) ?_
                              exact k279 1 t20 h
                          refine gr_if_eq C 266 dL_isPlayed_258 (by decide) (fun c258_15 => ?_) (fun c258_15 => ?_)
                          · refine gr_iconst C 1 dL_isPlayed_266 (by decide) ?_
                            refine gr_goto C 271 dL_isPlayed_267 (by decide) ?_
                            refine gr_sub [0, 1, 2, 3] rfl ?_
                            exact k271 _ ((if_pos (Or.inl c258_15)).symm)
                          · refine gr_iload C 4 dL_isPlayed_261 rfl ?_
                            refine gr_if_ne C 270 dL_isPlayed_263 (by decide) (fun c263_16 => ?_) (fun c263_16 => ?_)
                            · refine gr_iconst C 0 dL_isPlayed_270 (by decide) ?_
                              refine gr_sub [0, 1, 2, 3] rfl ?_
                              exact k271 _ ((if_neg (fun q0 => Or.elim q0 c258_15 c263_16)).symm)
                            · refine gr_iconst C 1 dL_isPlayed_266 (by decide) ?_
                              refine gr_goto C 271 dL_isPlayed_267 (by decide) ?_
                              refine gr_sub [0, 1, 2, 3] rfl ?_
                              exact k271 _ ((if_pos (Or.inr c263_16)).symm)
                        refine gr_icmp_ne C 254 dL_isPlayed_247 (by decide) (fun c247_14 => ?_) (fun c247_14 => ?_)
                        · refine gr_iconst C 0 dL_isPlayed_254 (by decide) ?_
                          refine gr_sub [1, 2, 3, 5, 6] rfl ?_
                          exact k255 _ ((if_neg c247_14).symm)
                        · refine gr_iconst C 1 dL_isPlayed_250 (by decide) ?_
                          refine gr_goto C 255 dL_isPlayed_251 (by decide) ?_
                          refine gr_sub [1, 2, 3, 5, 6] rfl ?_
                          exact k255 _ ((if_pos c247_14).symm)
                      refine gr_if_eq C 278 dL_isPlayed_214 (by decide) (fun c214_9 => ?_) (fun c214_9 => ?_)
                      · exact kt204 (Or.inl c214_9)
                      · refine gr_iload C 0 dL_isPlayed_217 rfl ?_
                        refine gr_if_lt C 278 dL_isPlayed_219 (by decide) (fun c219_10 => ?_) (fun c219_10 => ?_)
                        · exact kt204 (Or.inr (Or.inl c219_10))
                        · refine gr_iload C 0 dL_isPlayed_222 rfl ?_
                          refine gr_iloadn C 3 2 dL_isPlayed_224 rfl rfl ?_
                          refine gr_icmp_gt C 278 dL_isPlayed_225 (by decide) (fun c225_11 => ?_) (fun c225_11 => ?_)
                          · exact kt204 (Or.inr (Or.inr (Or.inl c225_11)))
                          · refine gr_iload C 6 dL_isPlayed_228 rfl ?_
                            refine gr_if_eq C 239 dL_isPlayed_230 (by decide) (fun c230_12 => ?_) (fun c230_12 => ?_)
                            · exact kf204 (fun q0 => Or.elim q0 c214_9 (fun q1 => Or.elim q1 c219_10 (fun q2 => Or.elim q2 c225_11 (fun q3 => q3.1 c230_12))))
                            · refine gr_iload C 0 dL_isPlayed_233 rfl ?_
                              refine gr_iloadn C 3 2 dL_isPlayed_235 rfl rfl ?_
                              refine gr_icmp_ne C 278 dL_isPlayed_236 (by decide) (fun c236_13 => ?_) (fun c236_13 => ?_)
                              · exact kt204 (Or.inr (Or.inr (Or.inr ⟨c230_12, c236_13⟩)))
                              · exact kf204 (fun q0 => Or.elim q0 c214_9 (fun q1 => Or.elim q1 c219_10 (fun q2 => Or.elim q2 c225_11 (fun q3 => (fun q4 => q4 c236_13) q3.2))))
                    · have h := h.2 c171_8
                      refine gr_iload C 5 dL_isPlayed_174 rfl ?_
                      obtain ⟨J196, hJ196, h⟩ := h
                      have k196 : ∀ x24 : Int32, ∀ t25 : LwS, J196 x24 t25 → GR p l e (rmC 14 B t.1) s m args below meth c 8 D K E0 B b0 (gr_Q below D K E0 b0 Q args s (rmC 14 B t.1)) t25 196 [(0, .ref o), (1, .ref a1), (2, .int z10.1), (4, .int z154.1), (5, .int z154.2.1), (7, .int z166.2.1)] [.int x24] := by
                        intro x24 t25 h
                        have h := hJ196 x24 t25 h
                        refine gr_istore C [(6, .int x24), (0, .ref o), (1, .ref a1), (2, .int z10.1), (4, .int z154.1), (5, .int z154.2.1), (7, .int z166.2.1)] dL_isPlayed_196 (by decide) rfl ?_
                        refine gr_iinc C 6 (z166.2.1 + 1) [(7, .int (z166.2.1 + 1)), (6, .int x24), (0, .ref o), (1, .ref a1), (2, .int z10.1), (4, .int z154.1), (5, .int z154.2.1)] dL_isPlayed_198 rfl rfl (by decide) rfl ?_
                        refine gr_goto C 166 dL_isPlayed_201 (by decide) ?_
                        refine gr_sub [2, 3, 4, 5, 6, 1, 0] rfl ?_
                        have h9 := ih166 (x24, (z166.2.1 + 1), t25) h
                        exact h9
                      obtain ⟨J195, hJ195, h⟩ := h
                      have k195 : ∀ t26 : LwS, J195 t26 → GR p l e (rmC 14 B t.1) s m args below meth c 8 D K E0 B b0 (gr_Q below D K E0 b0 Q args s (rmC 14 B t.1)) t26 195 [(0, .ref o), (1, .ref a1), (2, .int z10.1), (4, .int z154.1), (5, .int z154.2.1), (7, .int z166.2.1)] [] := by
                        intro t26 h
                        have h := hJ195 t26 h
                        refine gr_iconst C 0 dL_isPlayed_195 (by decide) ?_
                        exact k196 0 t26 h
                      refine gr_if_eq C 195 dL_isPlayed_176 (by decide) (fun c176_18 => ?_) (fun c176_18 => ?_)
                      · have h := h.1 c176_18
                        refine gr_sub [0, 1, 2, 3, 4, 6] rfl ?_
                        exact k195 z166.2.2 h
                      · have h := h.2 c176_18
                        refine gr_aloadn C 0 0 dL_isPlayed_179 rfl rfl ?_
                        refine gr_iload C 4 dL_isPlayed_180 rfl ?_
                        refine gr_iload C 6 dL_isPlayed_182 rfl ?_
                        obtain ⟨B27, hB27, hR27, h⟩ := h
                        refine gr_callW C (y := yL_isRight) (as := [.ref o, .int z154.2.1, .int z166.2.1]) (by exact ⟨Nat.le_of_ble_eq_true rfl, Nat.le_of_ble_eq_true rfl⟩) B27 hB27 hR27 (c_L_isRight l D K E0 b0 B27 o z154.2.1 z166.2.1 z166.2.2 _ h) hk_L_isRight rfl vs_L_203 kc_L_isRight dL_isPlayed_184 (Nat.le_of_ble_eq_true rfl) (fun r27 t27 h z1 z2 => ?_)
                        have h := h z1 z2
                        refine gr_iconst C 1 dL_isPlayed_187 (by decide) ?_
                        refine gr_icmp_ne C 195 dL_isPlayed_188 (by decide) (fun c188_19 => ?_) (fun c188_19 => ?_)
                        · have h := h.2 c188_19
                          refine gr_sub [0, 1, 2, 3, 4, 6] rfl ?_
                          exact k195 t27 h
                        · have h := h.1 c188_19
                          refine gr_iconst C 1 dL_isPlayed_191 (by decide) ?_
                          refine gr_goto C 196 dL_isPlayed_192 (by decide) ?_
                          refine gr_sub [0, 1, 2, 3, 4, 6] rfl ?_
                          exact k196 1 t27 h
                exact k166 n166 (1, 0, z154.2.2) h
          exact k154 n154 (x3, 0, t4) h
        obtain ⟨J148, hJ148, h⟩ := h
        have k148 : ∀ t28 : LwS, J148 t28 → GR p l e (rmC 14 B t.1) s m args below meth c 8 D K E0 B b0 (gr_Q below D K E0 b0 Q args s (rmC 14 B t.1)) t28 148 [(0, .ref o), (1, .ref a1), (2, .int z10.1)] [] := by
          intro t28 h
          have h := hJ148 t28 h
          refine gr_iconst C 0 dL_isPlayed_148 (by decide) ?_
          exact k149 0 t28 h
        obtain ⟨g29, h⟩ := h
        obtain ⟨g30, h⟩ := h
        have kt90 : ((¬ (r2 = z10.1)) ∨ ((r1 < (rG t2.2 a1 (Int32.toNatClampNeg 0))) ∨ (((2 : Int32) * (rG t2.2 a1 (Int32.toNatClampNeg 0))) < r1))) → GR p l e (rmC 14 B t.1) s m args below meth c 8 D K E0 B b0 (gr_Q below D K E0 b0 Q args s (rmC 14 B t.1)) t2 148 [(0, .ref o), (1, .ref a1), (2, .int z10.1), (3, .int r1), (4, .int z10.2.1)] [] := by
          intro hc
          have h := h.1 hc
          refine gr_sub [0, 1, 2] rfl ?_
          exact k148 t2 h
        have kf90 : ¬ ((¬ (r2 = z10.1)) ∨ ((r1 < (rG t2.2 a1 (Int32.toNatClampNeg 0))) ∨ (((2 : Int32) * (rG t2.2 a1 (Int32.toNatClampNeg 0))) < r1))) → GR p l e (rmC 14 B t.1) s m args below meth c 8 D K E0 B b0 (gr_Q below D K E0 b0 Q args s (rmC 14 B t.1)) t2 114 [(0, .ref o), (1, .ref a1), (2, .int z10.1), (3, .int r1), (4, .int z10.2.1)] [] := by
          intro hc
          have h := h.2 hc
          refine gr_aloadn C 0 0 dL_isPlayed_114 rfl rfl ?_
          refine gr_iloadn C 3 3 dL_isPlayed_115 rfl rfl ?_
          obtain ⟨B31, hB31, hR31, h⟩ := h
          refine gr_callW C (y := yL_barAt) (as := [.ref o, .int r1]) (by exact ⟨Nat.le_of_ble_eq_true rfl, Nat.le_of_ble_eq_true rfl⟩) B31 hB31 hR31 (c_L_barAt l D K E0 b0 B31 o r1 t2 _ h) hk_L_barAt rfl vs_L_184 kc_L_barAt dL_isPlayed_116 (Nat.le_of_ble_eq_true rfl) (fun r31 t31 h z1 z2 => ?_)
          have h := h z1 z2
          refine gr_ldc C (-1000001) v_i533 dL_isPlayed_119 ?_
          refine gr_icmp_ne C 148 dL_isPlayed_121 (by decide) (fun c121_23 => ?_) (fun c121_23 => ?_)
          · have h := h.2 c121_23
            refine gr_sub [0, 1, 2] rfl ?_
            exact k148 t31 h
          · have h := h.1 c121_23
            refine gr_aloadn C 0 0 dL_isPlayed_124 rfl rfl ?_
            refine gr_iconst C (-1) dL_isPlayed_125 (by decide) ?_
            obtain ⟨B32, hB32, hR32, h⟩ := h
            refine gr_callW C (y := yL_startOf) (as := [.ref o, .int (-1)]) (by exact ⟨Nat.le_of_ble_eq_true rfl, Nat.le_of_ble_eq_true rfl⟩) B32 hB32 hR32 (c_L_startOf l D K E0 b0 B32 o (-1) t31 _ h) hk_L_startOf rfl vs_L_189 kc_L_startOf dL_isPlayed_126 (Nat.le_of_ble_eq_true rfl) (fun r32 t32 h z1 z2 => ?_)
            have h := h z1 z2
            refine gr_ldc C (-1000001) v_i533 dL_isPlayed_129 ?_
            refine gr_icmp_ne C 148 dL_isPlayed_131 (by decide) (fun c131_24 => ?_) (fun c131_24 => ?_)
            · have h := h.2 c131_24
              refine gr_sub [0, 1, 2] rfl ?_
              exact k148 t32 h
            · have h := h.1 c131_24
              refine gr_aloadn C 0 0 dL_isPlayed_134 rfl rfl ?_
              obtain ⟨hk33, h⟩ := h
              obtain ⟨g34, h⟩ := h
              refine gr_callVP C (y := yX11_bars) (as := []) (by exact ⟨Nat.le_of_ble_eq_true rfl, Nat.le_of_ble_eq_true rfl⟩) (fun B1 => c_X11_bars l D K E0 B1 _ o t32.1 g34) hk_X11_bars rfl vl_L_200 kc_X11_bars (isC_of hk33 (by decide)) dL_isPlayed_135 (Nat.le_of_ble_eq_true rfl) ?_
              refine gr_aloadn C 1 1 dL_isPlayed_138 rfl rfl ?_
              refine gr_iconst C 0 dL_isPlayed_139 (by decide) ?_
              obtain ⟨g35, h⟩ := h
              refine gr_iald C g35 dL_isPlayed_140 ?_
              refine gr_icmp_ne C 148 dL_isPlayed_141 (by decide) (fun c141_25 => ?_) (fun c141_25 => ?_)
              · have h := h.2 c141_25
                refine gr_sub [0, 1, 2] rfl ?_
                exact k148 t32 h
              · have h := h.1 c141_25
                refine gr_iconst C 1 dL_isPlayed_144 (by decide) ?_
                refine gr_goto C 149 dL_isPlayed_145 (by decide) ?_
                refine gr_sub [0, 1, 2] rfl ?_
                exact k149 1 t32 h
        refine gr_icmp_ne C 148 dL_isPlayed_95 (by decide) (fun c95_20 => ?_) (fun c95_20 => ?_)
        · exact kt90 (Or.inl c95_20)
        · refine gr_iloadn C 3 3 dL_isPlayed_98 rfl rfl ?_
          refine gr_aloadn C 1 1 dL_isPlayed_99 rfl rfl ?_
          refine gr_iconst C 0 dL_isPlayed_100 (by decide) ?_
          refine gr_iald C (g29 c95_20) dL_isPlayed_101 ?_
          refine gr_icmp_lt C 148 dL_isPlayed_102 (by decide) (fun c102_21 => ?_) (fun c102_21 => ?_)
          · exact kt90 (Or.inr (Or.inl c102_21))
          · refine gr_iloadn C 3 3 dL_isPlayed_105 rfl rfl ?_
            refine gr_iconst C 2 dL_isPlayed_106 (by decide) ?_
            refine gr_aloadn C 1 1 dL_isPlayed_107 rfl rfl ?_
            refine gr_iconst C 0 dL_isPlayed_108 (by decide) ?_
            refine gr_iald C (g30 c95_20 c102_21) dL_isPlayed_109 ?_
            refine gr_imul C dL_isPlayed_110 ?_
            refine gr_icmp_gt C 148 dL_isPlayed_111 (by decide) (fun c111_22 => ?_) (fun c111_22 => ?_)
            · exact kt90 (Or.inr (Or.inr c111_22))
            · exact kf90 (fun q0 => Or.elim q0 (fun r => r c95_20) (fun q1 => Or.elim q1 c102_21 c111_22))
      · have h := h.2 c13_1
        refine gr_aloadn C 0 0 dL_isPlayed_16 rfl rfl ?_
        refine gr_iload C 4 dL_isPlayed_17 rfl ?_
        obtain ⟨B36, hB36, hR36, h⟩ := h
        refine gr_callW C (y := yL_barAt) (as := [.ref o, .int z10.2.1]) (by exact ⟨Nat.le_of_ble_eq_true rfl, Nat.le_of_ble_eq_true rfl⟩) B36 hB36 hR36 (c_L_barAt l D K E0 b0 B36 o z10.2.1 z10.2.2 _ h) hk_L_barAt rfl vs_L_184 kc_L_barAt dL_isPlayed_19 (Nat.le_of_ble_eq_true rfl) (fun r36 t36 h z1 z2 => ?_)
        have h := h z1 z2
        refine gr_istore C [(5, .int r36), (0, .ref o), (1, .ref a1), (2, .int z10.1), (3, .int r1), (4, .int z10.2.1)] dL_isPlayed_22 (by decide) rfl ?_
        refine gr_iload C 0 dL_isPlayed_24 rfl ?_
        obtain ⟨J73, hJ73, h⟩ := h
        have k73 : ∀ t37 : LwS, J73 t37 → GR p l e (rmC 14 B t.1) s m args below meth c 8 D K E0 B b0 (gr_Q below D K E0 b0 Q args s (rmC 14 B t.1)) t37 73 [] [] := by
          intro t37 h
          have h := hJ73 t37 h
          refine gr_iconst C 0 dL_isPlayed_73 (by decide) ?_
          exact gr_zret C E (Or.inl rfl) dL_isPlayed_74 h
        obtain ⟨g38, h⟩ := h
        have kt16 : ((r36 < 0) ∨ ((rG t36.2 a1 (Int32.toNatClampNeg 0)) ≤ r36)) → GR p l e (rmC 14 B t.1) s m args below meth c 8 D K E0 B b0 (gr_Q below D K E0 b0 Q args s (rmC 14 B t.1)) t36 73 [(5, .int r36), (0, .ref o), (1, .ref a1), (2, .int z10.1), (3, .int r1), (4, .int z10.2.1)] [] := by
          intro hc
          have h := h.1 hc
          refine gr_sub [] rfl ?_
          exact k73 t36 h
        have kf16 : ¬ ((r36 < 0) ∨ ((rG t36.2 a1 (Int32.toNatClampNeg 0)) ≤ r36)) → GR p l e (rmC 14 B t.1) s m args below meth c 8 D K E0 B b0 (gr_Q below D K E0 b0 Q args s (rmC 14 B t.1)) t36 37 [(5, .int r36), (0, .ref o), (1, .ref a1), (2, .int z10.1), (3, .int r1), (4, .int z10.2.1)] [] := by
          intro hc
          have h := h.2 hc
          refine gr_aloadn C 1 0 dL_isPlayed_37 rfl rfl ?_
          refine gr_iload C 5 dL_isPlayed_38 rfl ?_
          obtain ⟨B39, hB39, hR39, h⟩ := h
          refine gr_callW C (y := yL_startOf) (as := [.ref o, .int z10.2.1]) (by exact ⟨Nat.le_of_ble_eq_true rfl, Nat.le_of_ble_eq_true rfl⟩) B39 hB39 hR39 (c_L_startOf l D K E0 b0 B39 o z10.2.1 t36 _ h) hk_L_startOf rfl vs_L_189 kc_L_startOf dL_isPlayed_40 (Nat.le_of_ble_eq_true rfl) (fun r39 t39 h z1 z2 => ?_)
          have h := h z1 z2
          refine gr_iloadn C 3 2 dL_isPlayed_43 rfl rfl ?_
          refine gr_icmp_ne C 73 dL_isPlayed_44 (by decide) (fun c44_28 => ?_) (fun c44_28 => ?_)
          · have h := h.2 c44_28
            refine gr_sub [] rfl ?_
            exact k73 t39 h
          · have h := h.1 c44_28
            refine gr_aloadn C 1 0 dL_isPlayed_47 rfl rfl ?_
            refine gr_iload C 0 dL_isPlayed_48 rfl ?_
            obtain ⟨B40, hB40, hR40, h⟩ := h
            refine gr_callW C (y := yL_time) (as := [.ref o, .int r36]) (by exact ⟨Nat.le_of_ble_eq_true rfl, Nat.le_of_ble_eq_true rfl⟩) B40 hB40 hR40 (c_L_time l D K E0 b0 B40 o r36 t39 _ h) hk_L_time rfl vs_L_191 kc_L_time dL_isPlayed_50 (Nat.le_of_ble_eq_true rfl) (fun r40 t40 h z1 z2 => ?_)
            have h := h z1 z2
            refine gr_aloadn C 1 0 dL_isPlayed_53 rfl rfl ?_
            refine gr_iload C 0 dL_isPlayed_54 rfl ?_
            obtain ⟨B41, hB41, hR41, h⟩ := h
            refine gr_callW C (y := yL_length) (as := [.ref o, .int r36]) (by exact ⟨Nat.le_of_ble_eq_true rfl, Nat.le_of_ble_eq_true rfl⟩) B41 hB41 hR41 (c_L_length l D K E0 b0 B41 o r36 t40 _ h) hk_L_length rfl vs_L_193 kc_L_length dL_isPlayed_56 (Nat.le_of_ble_eq_true rfl) (fun r41 t41 h z1 z2 => ?_)
            have h := h z1 z2
            refine gr_sipush C 2500 dL_isPlayed_59 (by decide) ?_
            refine gr_imul C dL_isPlayed_62 ?_
            refine gr_aloadn C 1 0 dL_isPlayed_63 rfl rfl ?_
            refine gr_iload C 0 dL_isPlayed_64 rfl ?_
            obtain ⟨B42, hB42, hR42, h⟩ := h
            refine gr_callW C (y := yL_tempo) (as := [.ref o, .int r36]) (by exact ⟨Nat.le_of_ble_eq_true rfl, Nat.le_of_ble_eq_true rfl⟩) B42 hB42 hR42 (c_L_tempo l D K E0 b0 B42 o r36 t41 _ h) hk_L_tempo rfl vs_L_195 kc_L_tempo dL_isPlayed_66 (Nat.le_of_ble_eq_true rfl) (fun r42 t42 h z1 z2 => ?_)
            have h := h z1 z2
            obtain ⟨g43, h⟩ := h
            refine gr_idiv C dL_isPlayed_69 g43 ?_
            refine gr_icmp_eq C 75 dL_isPlayed_70 (by decide) (fun c70_29 => ?_) (fun c70_29 => ?_)
            · have h := h.1 c70_29
              refine gr_iloadn C 3 2 dL_isPlayed_75 rfl rfl ?_
              refine gr_aloadn C 1 0 dL_isPlayed_76 rfl rfl ?_
              refine gr_iload C 0 dL_isPlayed_77 rfl ?_
              obtain ⟨B44, hB44, hR44, h⟩ := h
              refine gr_callW C (y := yL_time) (as := [.ref o, .int r36]) (by exact ⟨Nat.le_of_ble_eq_true rfl, Nat.le_of_ble_eq_true rfl⟩) B44 hB44 hR44 (c_L_time l D K E0 b0 B44 o r36 t42 _ h) hk_L_time rfl vs_L_191 kc_L_time dL_isPlayed_79 (Nat.le_of_ble_eq_true rfl) (fun r44 t44 h z1 z2 => ?_)
              have h := h z1 z2
              refine gr_iadd C dL_isPlayed_82 ?_
              refine gr_nameI (fun x45 ex45 => ?_)
              have h := h x45 ex45
              refine gr_istoren C 2 [(2, .int x45), (5, .int r36), (0, .ref o), (1, .ref a1), (3, .int r1), (4, .int z10.2.1)] dL_isPlayed_83 rfl (by decide) rfl ?_
              refine gr_iinc C 5 (z10.2.1 + 1) [(4, .int (z10.2.1 + 1)), (2, .int x45), (5, .int r36), (0, .ref o), (1, .ref a1), (3, .int r1)] dL_isPlayed_84 rfl rfl (by decide) rfl ?_
              refine gr_goto C 10 dL_isPlayed_87 (by decide) ?_
              refine gr_sub [3, 4, 1, 5, 0] rfl ?_
              have h9 := ih10 (x45, (z10.2.1 + 1), t44) h
              exact h9
            · have h := h.2 c70_29
              refine gr_sub [] rfl ?_
              exact k73 t42 h
        refine gr_if_lt C 73 dL_isPlayed_26 (by decide) (fun c26_26 => ?_) (fun c26_26 => ?_)
        · exact kt16 (Or.inl c26_26)
        · refine gr_iload C 0 dL_isPlayed_29 rfl ?_
          refine gr_aloadn C 2 1 dL_isPlayed_31 rfl rfl ?_
          refine gr_iconst C 0 dL_isPlayed_32 (by decide) ?_
          refine gr_iald C (g38 c26_26) dL_isPlayed_33 ?_
          refine gr_icmp_ge C 73 dL_isPlayed_34 (by decide) (fun c34_27 => ?_) (fun c34_27 => ?_)
          · exact kt16 (Or.inr c34_27)
          · exact kf16 (fun q0 => Or.elim q0 c26_26 c34_27)
  exact k10 n10 (0, 0, t1) h
def w_L_areSounds_L34 (B : Nat × Nat) (o : Nat) (Q : Int32 → LwS → Prop) (t1 : LwS) (r1 : Int32) (x5 : Int32) (K34 : (Int32 × Int32 × Int32 × LwS) → Prop) (z34 : Int32 × Int32 × Int32 × LwS) : Prop := (((r1 ≤ z34.2.2.1) ∨ ((x5 + 9) ≤ z34.2.2.1)) → lcall B z34.2.2.2 (fun B1 K => w_L_soundVoice B1 o r1 z34.2.2.2 K) (fun r7 t7 => ∃ J264 : Int32 → LwS → Prop, (∀ x8 : Int32, ∀ t9 : LwS, J264 x8 t9 → ((gb x8) ∧ Q x8 t9)) ∧ ∃ J263 : LwS → Prop, (∀ t11 : LwS, J263 t11 → (J264 0 t11)) ∧ (((r7 = (-1000001)) → lcall B t7 (fun B1 K => w_L_soundStart B1 o (-1) t7 K) (fun r12 t12 => ((r12 = (-1000001)) → lcall B t12 (fun B1 K => w_L_soundTime B1 o r1 t12 K) (fun r13 t13 => ((r13 = (-1000001)) → lcall B t13 (fun B1 K => w_L_soundPitch B1 o r1 t13 K) (fun r14 t14 => ((r14 = (-1000001)) → lcall B t14 (fun B1 K => w_L_loudness B1 o r1 t14 K) (fun r15 t15 => ((r15 = (-1000001)) → J264 1 t15) ∧ (¬ (r15 = (-1000001)) → J263 t15))) ∧ (¬ (r14 = (-1000001)) → J263 t14))) ∧ (¬ (r13 = (-1000001)) → J263 t13))) ∧ (¬ (r12 = (-1000001)) → J263 t12))) ∧ (¬ (r7 = (-1000001)) → J263 t7)))) ∧ (¬ ((r1 ≤ z34.2.2.1) ∨ ((x5 + 9) ≤ z34.2.2.1)) → lcall B z34.2.2.2 (fun B1 K => w_L_soundVoice B1 o z34.2.2.1 z34.2.2.2 K) (fun r16 t16 => lcall B t16 (fun B1 K => w_L_soundStart B1 o z34.2.2.1 t16 K) (fun r17 t17 => lcall B t17 (fun B1 K => w_L_soundTime B1 o z34.2.2.1 t17 K) (fun r18 t18 => ∀ x19 : Int32, x19 = (if (z34.1 < r17) ∨ ((r17 = z34.1) ∧ (¬ (r16 ≤ z34.2.1))) then 1 else 0) → ∃ J184 : LwS → Prop, (∀ t20 : LwS, J184 t20 → (Q 0 t20)) ∧ (((¬ (r16 < 0)) → (¬ (3 < r16)) → (¬ (x19 = 0)) → (¬ (r18 ≤ 0)) → vp_in r16 (rN t18.2 (szC t1.1))) ∧ (((r16 < 0) ∨ ((3 < r16) ∨ ((x19 = 0) ∨ ((r18 ≤ 0) ∨ (r17 < (rG t18.2 (szC t1.1) (Int32.toNatClampNeg r16))))))) → J184 t18) ∧ (¬ ((r16 < 0) ∨ ((3 < r16) ∨ ((x19 = 0) ∨ ((r18 ≤ 0) ∨ (r17 < (rG t18.2 (szC t1.1) (Int32.toNatClampNeg r16))))))) → lcall B t18 (fun B1 K => w_L_soundPitch B1 o z34.2.2.1 t18 K) (fun r22 t22 => ((r22 < 1) → J184 t22) ∧ (¬ (r22 < 1) → lcall B t22 (fun B1 K => w_L_soundPitch B1 o z34.2.2.1 t22 K) (fun r23 t23 => ((127 < r23) → J184 t23) ∧ (¬ (127 < r23) → lcall B t23 (fun B1 K => w_L_loudness B1 o z34.2.2.1 t23 K) (fun r24 t24 => ((r24 < 0) → J184 t24) ∧ (¬ (r24 < 0) → lcall B t24 (fun B1 K => w_L_loudness B1 o z34.2.2.1 t24 K) (fun r25 t25 => ((5 < r25) → J184 t25) ∧ (¬ (5 < r25) → (kdC t25.1 o = 14) ∧ lcall B t25 (fun B1 K => w_X11_playingTime B1 o t25.1 (fun r S' => K r (S', t25.2)) (fun _ _ => False)) (fun r26 t26 => (((r17 + r18) ≤ r26) → (vp_in r16 (rN t26.2 (szC t1.1))) ∧ ∀ t28 : LwS, t28 = rSt t26 (szC t1.1) r16 (r17 + r18) → K34 (r17, r16, (z34.2.2.1 + 1), t28)) ∧ (¬ ((r17 + r18) ≤ r26) → J184 t26))))))))))))))))
def w_L_areSounds (B : Nat × Nat) (o : Nat) (a1 : Int32) (t : LwS) (Q : Int32 → LwS → Prop) : Prop := (kdC t.1 o = 14) ∧ lcall B t (fun B1 K => w_X11_sounds B1 o t.1 (fun r S' => K r (S', t.2)) (fun _ _ => False)) (fun r1 t1 => (szC t1.1 + 1 ≤ B.1 ∧ nsC t1.1 + 4 ≤ B.2) ∧ ∀ _ : t1.2 (szC t1.1) = none, ∀ t4 : LwS, t4 = rNw t1 4 → ((¬ (r1 = 0)) → d_L_low a1 r1) ∧ ∀ x5 : Int32, x5 = (if r1 = 0 then (0 : Int32) else (v_L_low a1 r1)) → ∃ n, lp (w_L_areSounds_L34 B o Q t1 r1 x5) n (0, (-1), x5, t4))
set_option maxRecDepth 20000 in
set_option maxHeartbeats 4000000 in
theorem c_L_areSounds (l : Launch) (D : va_G) (K : Nat → ClassId) (E0 b0 : Nat) (B : Nat × Nat) (o : Nat) (a1 : Int32) (t : LwS) (Q : Int32 → LwS → Prop) (h : w_L_areSounds B o a1 t Q) : MetR l yL_areSounds (.code yL_areSounds cL_areSounds 12 (some .boolean)) 14 [.ref o, .int a1] Q D K E0 b0 B t := by
  unfold w_L_areSounds at h
  refine gr_start (by decide) rfl (Nat.le_of_ble_eq_true rfl) (fun p e s m args below meth c C E => ?_)
  refine gr_aloadn C 0 0 dL_areSounds_0 rfl rfl ?_
  obtain ⟨hk1, h⟩ := h
  obtain ⟨B1, hB1, hR1, h⟩ := h
  refine gr_call C (y := yX11_sounds) (as := []) (by exact ⟨Nat.le_of_ble_eq_true rfl, Nat.le_of_ble_eq_true rfl⟩) B1 hB1 hR1 (c_X11_sounds l D K E0 B1 _ o t.1 _ _ h) hk_X11_sounds rfl vl_L_210 kc_X11_sounds (isC_of hk1 (by decide)) dL_areSounds_1 (Nat.le_of_ble_eq_true rfl) (fun _ _ h => h.elim) ?_
  rintro v S' ⟨r1, rfl, h⟩ _ z1 z2
  have h := h z1 z2
  obtain ⟨t1, et1⟩ : ∃ q : LwS, q = (S', t.2) := ⟨_, rfl⟩
  rw [← et1] at h ⊢
  refine gr_istoren C 2 [(2, .int r1), (0, .ref o), (1, .int a1)] dL_areSounds_4 rfl (by decide) rfl ?_
  refine gr_iconst C 4 dL_areSounds_5 (by decide) ?_
  obtain ⟨g2, h⟩ := h
  refine gr_newarr C (n := 4) (N := 4) v_i137 (by decide) (by decide +kernel) (by decide) g2 dL_areSounds_6 (fun f3 => ?_)
  have h := h f3
  refine gr_nameS (fun t4 et4 => ?_)
  have h := h t4 et4
  refine gr_astoren C 3 [(3, .ref (szC t1.1)), (2, .int r1), (0, .ref o), (1, .int a1)] dL_areSounds_8 rfl (by decide) rfl ?_
  refine gr_iconst C 0 dL_areSounds_9 (by decide) ?_
  refine gr_istore C [(4, .int 0), (3, .ref (szC t1.1)), (2, .int r1), (0, .ref o), (1, .int a1)] dL_areSounds_10 (by decide) rfl ?_
  refine gr_iconst C (-1) dL_areSounds_12 (by decide) ?_
  refine gr_istore C [(5, .int (-1)), (4, .int 0), (3, .ref (szC t1.1)), (2, .int r1), (0, .ref o), (1, .int a1)] dL_areSounds_13 (by decide) rfl ?_
  refine gr_iloadn C 3 2 dL_areSounds_15 rfl rfl ?_
  obtain ⟨g6, h⟩ := h
  have k28 : ∀ x5 : Int32, x5 = (if r1 = 0 then (0 : Int32) else (v_L_low a1 r1)) → GR p l e (rmC 14 B t.1) s m args below meth c 12 D K E0 B b0 (gr_Q below D K E0 b0 Q args s (rmC 14 B t.1)) t4 28 [(0, .ref o), (2, .int r1), (3, .ref (szC t1.1)), (4, .int 0), (5, .int (-1))] [.int x5] := by
    intro x5 ex5
    have h := h x5 ex5
    refine gr_istore C [(6, .int x5), (0, .ref o), (2, .int r1), (3, .ref (szC t1.1)), (4, .int 0), (5, .int (-1))] dL_areSounds_28 (by decide) rfl ?_
    refine gr_iload C 0 dL_areSounds_30 rfl ?_
    refine gr_istore C [(7, .int x5), (6, .int x5), (0, .ref o), (2, .int r1), (3, .ref (szC t1.1)), (4, .int 0), (5, .int (-1))] dL_areSounds_32 (by decide) rfl ?_
    refine gr_sub [2, 3, 4, 5, 6, 1, 0] rfl ?_
    obtain ⟨n34, h⟩ := h
    have k34 : ∀ (n34 : Nat) (z34 : Int32 × Int32 × Int32 × LwS), lp (w_L_areSounds_L34 B o Q t1 r1 x5) n34 z34 → GR p l e (rmC 14 B t.1) s m args below meth c 12 D K E0 B b0 (gr_Q below D K E0 b0 Q args s (rmC 14 B t.1)) z34.2.2.2 34 [(0, .ref o), (2, .int r1), (3, .ref (szC t1.1)), (4, .int z34.1), (5, .int z34.2.1), (6, .int x5), (7, .int z34.2.2.1)] [] := by
      intro n34
      induction n34 with
      | zero => intro z34 h; exact h.elim
      | succ n34 ih34 =>
        intro z34 h
        have h : w_L_areSounds_L34 B o Q t1 r1 x5 (lp (w_L_areSounds_L34 B o Q t1 r1 x5) n34) z34 := h
        unfold w_L_areSounds_L34 at h
        refine gr_iload C 6 dL_areSounds_34 rfl ?_
        refine gr_iloadn C 1 2 dL_areSounds_36 rfl rfl ?_
        have kt34 : ((r1 ≤ z34.2.2.1) ∨ ((x5 + 9) ≤ z34.2.2.1)) → GR p l e (rmC 14 B t.1) s m args below meth c 12 D K E0 B b0 (gr_Q below D K E0 b0 Q args s (rmC 14 B t.1)) z34.2.2.2 209 [(0, .ref o), (2, .int r1), (3, .ref (szC t1.1)), (4, .int z34.1), (5, .int z34.2.1), (6, .int x5), (7, .int z34.2.2.1)] [] := by
          intro hc
          have h := h.1 hc
          refine gr_aloadn C 0 0 dL_areSounds_209 rfl rfl ?_
          refine gr_iloadn C 1 2 dL_areSounds_210 rfl rfl ?_
          obtain ⟨B7, hB7, hR7, h⟩ := h
          refine gr_callW C (y := yL_soundVoice) (as := [.ref o, .int r1]) (by exact ⟨Nat.le_of_ble_eq_true rfl, Nat.le_of_ble_eq_true rfl⟩) B7 hB7 hR7 (c_L_soundVoice l D K E0 b0 B7 o r1 z34.2.2.2 _ h) hk_L_soundVoice rfl vs_L_216 kc_L_soundVoice dL_areSounds_211 (Nat.le_of_ble_eq_true rfl) (fun r7 t7 h z1 z2 => ?_)
          have h := h z1 z2
          refine gr_ldc C (-1000001) v_i533 dL_areSounds_214 ?_
          obtain ⟨J264, hJ264, h⟩ := h
          have k264 : ∀ x8 : Int32, ∀ t9 : LwS, J264 x8 t9 → GR p l e (rmC 14 B t.1) s m args below meth c 12 D K E0 B b0 (gr_Q below D K E0 b0 Q args s (rmC 14 B t.1)) t9 264 [] [.int x8] := by
            intro x8 t9 h
            have h := hJ264 x8 t9 h
            obtain ⟨g10, h⟩ := h
            exact gr_zret C E g10 dL_areSounds_264 h
          obtain ⟨J263, hJ263, h⟩ := h
          have k263 : ∀ t11 : LwS, J263 t11 → GR p l e (rmC 14 B t.1) s m args below meth c 12 D K E0 B b0 (gr_Q below D K E0 b0 Q args s (rmC 14 B t.1)) t11 263 [] [] := by
            intro t11 h
            have h := hJ263 t11 h
            refine gr_iconst C 0 dL_areSounds_263 (by decide) ?_
            exact k264 0 t11 h
          refine gr_icmp_ne C 263 dL_areSounds_216 (by decide) (fun c216_4 => ?_) (fun c216_4 => ?_)
          · have h := h.2 c216_4
            refine gr_sub [] rfl ?_
            exact k263 t7 h
          · have h := h.1 c216_4
            refine gr_aloadn C 0 0 dL_areSounds_219 rfl rfl ?_
            refine gr_iconst C (-1) dL_areSounds_220 (by decide) ?_
            obtain ⟨B12, hB12, hR12, h⟩ := h
            refine gr_callW C (y := yL_soundStart) (as := [.ref o, .int (-1)]) (by exact ⟨Nat.le_of_ble_eq_true rfl, Nat.le_of_ble_eq_true rfl⟩) B12 hB12 hR12 (c_L_soundStart l D K E0 b0 B12 o (-1) t7 _ h) hk_L_soundStart rfl vs_L_218 kc_L_soundStart dL_areSounds_221 (Nat.le_of_ble_eq_true rfl) (fun r12 t12 h z1 z2 => ?_)
            have h := h z1 z2
            refine gr_ldc C (-1000001) v_i533 dL_areSounds_224 ?_
            refine gr_icmp_ne C 263 dL_areSounds_226 (by decide) (fun c226_5 => ?_) (fun c226_5 => ?_)
            · have h := h.2 c226_5
              refine gr_sub [] rfl ?_
              exact k263 t12 h
            · have h := h.1 c226_5
              refine gr_aloadn C 0 0 dL_areSounds_229 rfl rfl ?_
              refine gr_iloadn C 1 2 dL_areSounds_230 rfl rfl ?_
              obtain ⟨B13, hB13, hR13, h⟩ := h
              refine gr_callW C (y := yL_soundTime) (as := [.ref o, .int r1]) (by exact ⟨Nat.le_of_ble_eq_true rfl, Nat.le_of_ble_eq_true rfl⟩) B13 hB13 hR13 (c_L_soundTime l D K E0 b0 B13 o r1 t12 _ h) hk_L_soundTime rfl vs_L_220 kc_L_soundTime dL_areSounds_231 (Nat.le_of_ble_eq_true rfl) (fun r13 t13 h z1 z2 => ?_)
              have h := h z1 z2
              refine gr_ldc C (-1000001) v_i533 dL_areSounds_234 ?_
              refine gr_icmp_ne C 263 dL_areSounds_236 (by decide) (fun c236_6 => ?_) (fun c236_6 => ?_)
              · have h := h.2 c236_6
                refine gr_sub [] rfl ?_
                exact k263 t13 h
              · have h := h.1 c236_6
                refine gr_aloadn C 0 0 dL_areSounds_239 rfl rfl ?_
                refine gr_iloadn C 1 2 dL_areSounds_240 rfl rfl ?_
                obtain ⟨B14, hB14, hR14, h⟩ := h
                refine gr_callW C (y := yL_soundPitch) (as := [.ref o, .int r1]) (by exact ⟨Nat.le_of_ble_eq_true rfl, Nat.le_of_ble_eq_true rfl⟩) B14 hB14 hR14 (c_L_soundPitch l D K E0 b0 B14 o r1 t13 _ h) hk_L_soundPitch rfl vs_L_222 kc_L_soundPitch dL_areSounds_241 (Nat.le_of_ble_eq_true rfl) (fun r14 t14 h z1 z2 => ?_)
                have h := h z1 z2
                refine gr_ldc C (-1000001) v_i533 dL_areSounds_244 ?_
                refine gr_icmp_ne C 263 dL_areSounds_246 (by decide) (fun c246_7 => ?_) (fun c246_7 => ?_)
                · have h := h.2 c246_7
                  refine gr_sub [] rfl ?_
                  exact k263 t14 h
                · have h := h.1 c246_7
                  refine gr_aloadn C 0 0 dL_areSounds_249 rfl rfl ?_
                  refine gr_iloadn C 1 2 dL_areSounds_250 rfl rfl ?_
                  obtain ⟨B15, hB15, hR15, h⟩ := h
                  refine gr_callW C (y := yL_loudness) (as := [.ref o, .int r1]) (by exact ⟨Nat.le_of_ble_eq_true rfl, Nat.le_of_ble_eq_true rfl⟩) B15 hB15 hR15 (c_L_loudness l D K E0 b0 B15 o r1 t14 _ h) hk_L_loudness rfl vs_L_224 kc_L_loudness dL_areSounds_251 (Nat.le_of_ble_eq_true rfl) (fun r15 t15 h z1 z2 => ?_)
                  have h := h z1 z2
                  refine gr_ldc C (-1000001) v_i533 dL_areSounds_254 ?_
                  refine gr_icmp_ne C 263 dL_areSounds_256 (by decide) (fun c256_8 => ?_) (fun c256_8 => ?_)
                  · have h := h.2 c256_8
                    refine gr_sub [] rfl ?_
                    exact k263 t15 h
                  · have h := h.1 c256_8
                    refine gr_iconst C 1 dL_areSounds_259 (by decide) ?_
                    refine gr_goto C 264 dL_areSounds_260 (by decide) ?_
                    refine gr_sub [] rfl ?_
                    exact k264 1 t15 h
        have kf34 : ¬ ((r1 ≤ z34.2.2.1) ∨ ((x5 + 9) ≤ z34.2.2.1)) → GR p l e (rmC 14 B t.1) s m args below meth c 12 D K E0 B b0 (gr_Q below D K E0 b0 Q args s (rmC 14 B t.1)) z34.2.2.2 50 [(0, .ref o), (2, .int r1), (3, .ref (szC t1.1)), (4, .int z34.1), (5, .int z34.2.1), (6, .int x5), (7, .int z34.2.2.1)] [] := by
          intro hc
          have h := h.2 hc
          refine gr_aloadn C 0 0 dL_areSounds_50 rfl rfl ?_
          refine gr_iload C 6 dL_areSounds_51 rfl ?_
          obtain ⟨B16, hB16, hR16, h⟩ := h
          refine gr_callW C (y := yL_soundVoice) (as := [.ref o, .int z34.2.2.1]) (by exact ⟨Nat.le_of_ble_eq_true rfl, Nat.le_of_ble_eq_true rfl⟩) B16 hB16 hR16 (c_L_soundVoice l D K E0 b0 B16 o z34.2.2.1 z34.2.2.2 _ h) hk_L_soundVoice rfl vs_L_216 kc_L_soundVoice dL_areSounds_53 (Nat.le_of_ble_eq_true rfl) (fun r16 t16 h z1 z2 => ?_)
          have h := h z1 z2
          refine gr_istore C [(8, .int r16), (0, .ref o), (2, .int r1), (3, .ref (szC t1.1)), (4, .int z34.1), (5, .int z34.2.1), (6, .int x5), (7, .int z34.2.2.1)] dL_areSounds_56 (by decide) rfl ?_
          refine gr_aloadn C 1 0 dL_areSounds_58 rfl rfl ?_
          refine gr_iload C 7 dL_areSounds_59 rfl ?_
          obtain ⟨B17, hB17, hR17, h⟩ := h
          refine gr_callW C (y := yL_soundStart) (as := [.ref o, .int z34.2.2.1]) (by exact ⟨Nat.le_of_ble_eq_true rfl, Nat.le_of_ble_eq_true rfl⟩) B17 hB17 hR17 (c_L_soundStart l D K E0 b0 B17 o z34.2.2.1 t16 _ h) hk_L_soundStart rfl vs_L_218 kc_L_soundStart dL_areSounds_61 (Nat.le_of_ble_eq_true rfl) (fun r17 t17 h z1 z2 => ?_)
          have h := h z1 z2
          refine gr_istore C [(9, .int r17), (8, .int r16), (0, .ref o), (2, .int r1), (3, .ref (szC t1.1)), (4, .int z34.1), (5, .int z34.2.1), (6, .int x5), (7, .int z34.2.2.1)] dL_areSounds_64 (by decide) rfl ?_
          refine gr_aloadn C 2 0 dL_areSounds_66 rfl rfl ?_
          refine gr_iload C 8 dL_areSounds_67 rfl ?_
          obtain ⟨B18, hB18, hR18, h⟩ := h
          refine gr_callW C (y := yL_soundTime) (as := [.ref o, .int z34.2.2.1]) (by exact ⟨Nat.le_of_ble_eq_true rfl, Nat.le_of_ble_eq_true rfl⟩) B18 hB18 hR18 (c_L_soundTime l D K E0 b0 B18 o z34.2.2.1 t17 _ h) hk_L_soundTime rfl vs_L_220 kc_L_soundTime dL_areSounds_69 (Nat.le_of_ble_eq_true rfl) (fun r18 t18 h z1 z2 => ?_)
          have h := h z1 z2
          refine gr_istore C [(10, .int r18), (9, .int r17), (8, .int r16), (0, .ref o), (2, .int r1), (3, .ref (szC t1.1)), (4, .int z34.1), (5, .int z34.2.1), (6, .int x5), (7, .int z34.2.2.1)] dL_areSounds_72 (by decide) rfl ?_
          refine gr_iload C 1 dL_areSounds_74 rfl ?_
          refine gr_iload C 6 dL_areSounds_76 rfl ?_
          have k100 : ∀ x19 : Int32, x19 = (if (z34.1 < r17) ∨ ((r17 = z34.1) ∧ (¬ (r16 ≤ z34.2.1))) then 1 else 0) → GR p l e (rmC 14 B t.1) s m args below meth c 12 D K E0 B b0 (gr_Q below D K E0 b0 Q args s (rmC 14 B t.1)) t18 100 [(0, .ref o), (2, .int r1), (3, .ref (szC t1.1)), (6, .int x5), (7, .int z34.2.2.1), (8, .int r16), (9, .int r17), (10, .int r18)] [.int x19] := by
            intro x19 ex19
            have h := h x19 ex19
            refine gr_istore C [(11, .int x19), (0, .ref o), (2, .int r1), (3, .ref (szC t1.1)), (6, .int x5), (7, .int z34.2.2.1), (8, .int r16), (9, .int r17), (10, .int r18)] dL_areSounds_100 (by decide) rfl ?_
            refine gr_iload C 6 dL_areSounds_102 rfl ?_
            obtain ⟨J184, hJ184, h⟩ := h
            have k184 : ∀ t20 : LwS, J184 t20 → GR p l e (rmC 14 B t.1) s m args below meth c 12 D K E0 B b0 (gr_Q below D K E0 b0 Q args s (rmC 14 B t.1)) t20 184 [] [] := by
              intro t20 h
              have h := hJ184 t20 h
              refine gr_iconst C 0 dL_areSounds_184 (by decide) ?_
              exact gr_zret C E (Or.inl rfl) dL_areSounds_185 h
            obtain ⟨g21, h⟩ := h
            have kt100 : ((r16 < 0) ∨ ((3 < r16) ∨ ((x19 = 0) ∨ ((r18 ≤ 0) ∨ (r17 < (rG t18.2 (szC t1.1) (Int32.toNatClampNeg r16))))))) → GR p l e (rmC 14 B t.1) s m args below meth c 12 D K E0 B b0 (gr_Q below D K E0 b0 Q args s (rmC 14 B t.1)) t18 184 [(11, .int x19), (0, .ref o), (2, .int r1), (3, .ref (szC t1.1)), (6, .int x5), (7, .int z34.2.2.1), (8, .int r16), (9, .int r17), (10, .int r18)] [] := by
              intro hc
              have h := h.1 hc
              refine gr_sub [] rfl ?_
              exact k184 t18 h
            have kf100 : ¬ ((r16 < 0) ∨ ((3 < r16) ∨ ((x19 = 0) ∨ ((r18 ≤ 0) ∨ (r17 < (rG t18.2 (szC t1.1) (Int32.toNatClampNeg r16))))))) → GR p l e (rmC 14 B t.1) s m args below meth c 12 D K E0 B b0 (gr_Q below D K E0 b0 Q args s (rmC 14 B t.1)) t18 132 [(11, .int x19), (0, .ref o), (2, .int r1), (3, .ref (szC t1.1)), (6, .int x5), (7, .int z34.2.2.1), (8, .int r16), (9, .int r17), (10, .int r18)] [] := by
              intro hc
              have h := h.2 hc
              refine gr_aloadn C 1 0 dL_areSounds_132 rfl rfl ?_
              refine gr_iload C 5 dL_areSounds_133 rfl ?_
              obtain ⟨B22, hB22, hR22, h⟩ := h
              refine gr_callW C (y := yL_soundPitch) (as := [.ref o, .int z34.2.2.1]) (by exact ⟨Nat.le_of_ble_eq_true rfl, Nat.le_of_ble_eq_true rfl⟩) B22 hB22 hR22 (c_L_soundPitch l D K E0 b0 B22 o z34.2.2.1 t18 _ h) hk_L_soundPitch rfl vs_L_222 kc_L_soundPitch dL_areSounds_135 (Nat.le_of_ble_eq_true rfl) (fun r22 t22 h z1 z2 => ?_)
              have h := h z1 z2
              refine gr_iconst C 1 dL_areSounds_138 (by decide) ?_
              refine gr_icmp_lt C 184 dL_areSounds_139 (by decide) (fun c139_17 => ?_) (fun c139_17 => ?_)
              · have h := h.1 c139_17
                refine gr_sub [] rfl ?_
                exact k184 t22 h
              · have h := h.2 c139_17
                refine gr_aloadn C 1 0 dL_areSounds_142 rfl rfl ?_
                refine gr_iload C 5 dL_areSounds_143 rfl ?_
                obtain ⟨B23, hB23, hR23, h⟩ := h
                refine gr_callW C (y := yL_soundPitch) (as := [.ref o, .int z34.2.2.1]) (by exact ⟨Nat.le_of_ble_eq_true rfl, Nat.le_of_ble_eq_true rfl⟩) B23 hB23 hR23 (c_L_soundPitch l D K E0 b0 B23 o z34.2.2.1 t22 _ h) hk_L_soundPitch rfl vs_L_222 kc_L_soundPitch dL_areSounds_145 (Nat.le_of_ble_eq_true rfl) (fun r23 t23 h z1 z2 => ?_)
                have h := h z1 z2
                refine gr_bipush C 127 dL_areSounds_148 (by decide) ?_
                refine gr_icmp_gt C 184 dL_areSounds_150 (by decide) (fun c150_18 => ?_) (fun c150_18 => ?_)
                · have h := h.1 c150_18
                  refine gr_sub [] rfl ?_
                  exact k184 t23 h
                · have h := h.2 c150_18
                  refine gr_aloadn C 1 0 dL_areSounds_153 rfl rfl ?_
                  refine gr_iload C 5 dL_areSounds_154 rfl ?_
                  obtain ⟨B24, hB24, hR24, h⟩ := h
                  refine gr_callW C (y := yL_loudness) (as := [.ref o, .int z34.2.2.1]) (by exact ⟨Nat.le_of_ble_eq_true rfl, Nat.le_of_ble_eq_true rfl⟩) B24 hB24 hR24 (c_L_loudness l D K E0 b0 B24 o z34.2.2.1 t23 _ h) hk_L_loudness rfl vs_L_224 kc_L_loudness dL_areSounds_156 (Nat.le_of_ble_eq_true rfl) (fun r24 t24 h z1 z2 => ?_)
                  have h := h z1 z2
                  refine gr_if_lt C 184 dL_areSounds_159 (by decide) (fun c159_19 => ?_) (fun c159_19 => ?_)
                  · have h := h.1 c159_19
                    refine gr_sub [] rfl ?_
                    exact k184 t24 h
                  · have h := h.2 c159_19
                    refine gr_aloadn C 1 0 dL_areSounds_162 rfl rfl ?_
                    refine gr_iload C 5 dL_areSounds_163 rfl ?_
                    obtain ⟨B25, hB25, hR25, h⟩ := h
                    refine gr_callW C (y := yL_loudness) (as := [.ref o, .int z34.2.2.1]) (by exact ⟨Nat.le_of_ble_eq_true rfl, Nat.le_of_ble_eq_true rfl⟩) B25 hB25 hR25 (c_L_loudness l D K E0 b0 B25 o z34.2.2.1 t24 _ h) hk_L_loudness rfl vs_L_224 kc_L_loudness dL_areSounds_165 (Nat.le_of_ble_eq_true rfl) (fun r25 t25 h z1 z2 => ?_)
                    have h := h z1 z2
                    refine gr_iconst C 5 dL_areSounds_168 (by decide) ?_
                    refine gr_icmp_gt C 184 dL_areSounds_169 (by decide) (fun c169_20 => ?_) (fun c169_20 => ?_)
                    · have h := h.1 c169_20
                      refine gr_sub [] rfl ?_
                      exact k184 t25 h
                    · have h := h.2 c169_20
                      refine gr_iload C 7 dL_areSounds_172 rfl ?_
                      refine gr_iload C 8 dL_areSounds_174 rfl ?_
                      refine gr_iadd C dL_areSounds_176 ?_
                      refine gr_aloadn C 1 0 dL_areSounds_177 rfl rfl ?_
                      obtain ⟨hk26, h⟩ := h
                      obtain ⟨B26, hB26, hR26, h⟩ := h
                      refine gr_call C (y := yX11_playingTime) (as := []) (by exact ⟨Nat.le_of_ble_eq_true rfl, Nat.le_of_ble_eq_true rfl⟩) B26 hB26 hR26 (c_X11_playingTime l D K E0 B26 _ o t25.1 _ _ h) hk_X11_playingTime rfl vl_L_197 kc_X11_playingTime (isC_of hk26 (by decide)) dL_areSounds_178 (Nat.le_of_ble_eq_true rfl) (fun _ _ h => h.elim) ?_
                      rintro v S' ⟨r26, rfl, h⟩ _ z1 z2
                      have h := h z1 z2
                      obtain ⟨t26, et26⟩ : ∃ q : LwS, q = (S', t25.2) := ⟨_, rfl⟩
                      rw [← et26] at h ⊢
                      refine gr_icmp_le C 186 dL_areSounds_181 (by decide) (fun c181_21 => ?_) (fun c181_21 => ?_)
                      · have h := h.1 c181_21
                        refine gr_aloadn C 3 3 dL_areSounds_186 rfl rfl ?_
                        refine gr_iload C 6 dL_areSounds_187 rfl ?_
                        refine gr_iload C 7 dL_areSounds_189 rfl ?_
                        refine gr_iload C 8 dL_areSounds_191 rfl ?_
                        refine gr_iadd C dL_areSounds_193 ?_
                        obtain ⟨g27, h⟩ := h
                        refine gr_iast C g27 dL_areSounds_194 ?_
                        refine gr_nameS (fun t28 et28 => ?_)
                        have h := h t28 et28
                        refine gr_iload C 7 dL_areSounds_195 rfl ?_
                        refine gr_istore C [(4, .int r17), (11, .int x19), (0, .ref o), (2, .int r1), (3, .ref (szC t1.1)), (6, .int x5), (7, .int z34.2.2.1), (8, .int r16), (9, .int r17), (10, .int r18)] dL_areSounds_197 (by decide) rfl ?_
                        refine gr_iload C 7 dL_areSounds_199 rfl ?_
                        refine gr_istore C [(5, .int r16), (4, .int r17), (11, .int x19), (0, .ref o), (2, .int r1), (3, .ref (szC t1.1)), (6, .int x5), (7, .int z34.2.2.1), (8, .int r16), (9, .int r17), (10, .int r18)] dL_areSounds_201 (by decide) rfl ?_
                        refine gr_iinc C 7 (z34.2.2.1 + 1) [(7, .int (z34.2.2.1 + 1)), (5, .int r16), (4, .int r17), (11, .int x19), (0, .ref o), (2, .int r1), (3, .ref (szC t1.1)), (6, .int x5), (8, .int r16), (9, .int r17), (10, .int r18)] dL_areSounds_203 rfl rfl (by decide) rfl ?_
                        refine gr_goto C 34 dL_areSounds_206 (by decide) ?_
                        refine gr_sub [4, 5, 6, 2, 1, 7, 0] rfl ?_
                        have h9 := ih34 (r17, r16, (z34.2.2.1 + 1), t28) h
                        exact h9
                      · have h := h.2 c181_21
                        refine gr_sub [] rfl ?_
                        exact k184 t26 h
            refine gr_if_lt C 184 dL_areSounds_104 (by decide) (fun c104_12 => ?_) (fun c104_12 => ?_)
            · exact kt100 (Or.inl c104_12)
            · refine gr_iload C 6 dL_areSounds_107 rfl ?_
              refine gr_iconst C 3 dL_areSounds_109 (by decide) ?_
              refine gr_icmp_gt C 184 dL_areSounds_110 (by decide) (fun c110_13 => ?_) (fun c110_13 => ?_)
              · exact kt100 (Or.inr (Or.inl c110_13))
              · refine gr_iload C 0 dL_areSounds_113 rfl ?_
                refine gr_if_eq C 184 dL_areSounds_115 (by decide) (fun c115_14 => ?_) (fun c115_14 => ?_)
                · exact kt100 (Or.inr (Or.inr (Or.inl c115_14)))
                · refine gr_iload C 8 dL_areSounds_118 rfl ?_
                  refine gr_if_le C 184 dL_areSounds_120 (by decide) (fun c120_15 => ?_) (fun c120_15 => ?_)
                  · exact kt100 (Or.inr (Or.inr (Or.inr (Or.inl c120_15))))
                  · refine gr_iload C 7 dL_areSounds_123 rfl ?_
                    refine gr_aloadn C 3 3 dL_areSounds_125 rfl rfl ?_
                    refine gr_iload C 6 dL_areSounds_126 rfl ?_
                    refine gr_iald C (g21 c104_12 c110_13 c115_14 c120_15) dL_areSounds_128 ?_
                    refine gr_icmp_lt C 184 dL_areSounds_129 (by decide) (fun c129_16 => ?_) (fun c129_16 => ?_)
                    · exact kt100 (Or.inr (Or.inr (Or.inr (Or.inr c129_16))))
                    · exact kf100 (fun q0 => Or.elim q0 c104_12 (fun q1 => Or.elim q1 c110_13 (fun q2 => Or.elim q2 c115_14 (fun q3 => Or.elim q3 c120_15 c129_16))))
          refine gr_icmp_gt C 95 dL_areSounds_78 (by decide) (fun c78_9 => ?_) (fun c78_9 => ?_)
          · refine gr_iconst C 1 dL_areSounds_95 (by decide) ?_
            refine gr_goto C 100 dL_areSounds_96 (by decide) ?_
            refine gr_sub [3, 4, 5, 8, 9, 2, 1, 0] rfl ?_
            exact k100 _ ((if_pos (Or.inl c78_9)).symm)
          · refine gr_iload C 1 dL_areSounds_81 rfl ?_
            refine gr_iload C 6 dL_areSounds_83 rfl ?_
            refine gr_icmp_ne C 99 dL_areSounds_85 (by decide) (fun c85_10 => ?_) (fun c85_10 => ?_)
            · refine gr_iconst C 0 dL_areSounds_99 (by decide) ?_
              refine gr_sub [3, 4, 5, 8, 9, 2, 1, 0] rfl ?_
              exact k100 _ ((if_neg (fun q0 => Or.elim q0 c78_9 (fun q1 => c85_10 q1.1))).symm)
            · refine gr_iload C 2 dL_areSounds_88 rfl ?_
              refine gr_iload C 7 dL_areSounds_90 rfl ?_
              refine gr_icmp_le C 99 dL_areSounds_92 (by decide) (fun c92_11 => ?_) (fun c92_11 => ?_)
              · refine gr_iconst C 0 dL_areSounds_99 (by decide) ?_
                refine gr_sub [3, 4, 5, 8, 9, 2, 1, 0] rfl ?_
                exact k100 _ ((if_neg (fun q0 => Or.elim q0 c78_9 (fun q1 => (fun q2 => q2 c92_11) q1.2))).symm)
              · refine gr_iconst C 1 dL_areSounds_95 (by decide) ?_
                refine gr_goto C 100 dL_areSounds_96 (by decide) ?_
                refine gr_sub [3, 4, 5, 8, 9, 2, 1, 0] rfl ?_
                exact k100 _ ((if_pos (Or.inr ⟨c85_10, c92_11⟩)).symm)
        refine gr_icmp_ge C 209 dL_areSounds_37 (by decide) (fun c37_2 => ?_) (fun c37_2 => ?_)
        · exact kt34 (Or.inl c37_2)
        · refine gr_iload C 6 dL_areSounds_40 rfl ?_
          refine gr_iload C 5 dL_areSounds_42 rfl ?_
          refine gr_bipush C 9 dL_areSounds_44 (by decide) ?_
          refine gr_iadd C dL_areSounds_46 ?_
          refine gr_icmp_ge C 209 dL_areSounds_47 (by decide) (fun c47_3 => ?_) (fun c47_3 => ?_)
          · exact kt34 (Or.inr c47_3)
          · exact kf34 (fun q0 => Or.elim q0 c37_2 c47_3)
    exact k34 n34 (0, (-1), x5, t4) h
  refine gr_if_ne C 23 dL_areSounds_16 (by decide) (fun c16_1 => ?_) (fun c16_1 => ?_)
  · refine gr_iloadn C 5 1 dL_areSounds_23 rfl rfl ?_
    refine gr_iloadn C 3 2 dL_areSounds_24 rfl rfl ?_
    refine gr_callP C (y := yL_low) (as := [.int a1, .int r1]) (by exact ⟨Nat.le_of_ble_eq_true rfl, Nat.le_of_ble_eq_true rfl⟩) (fun B1 => c_L_low l D K E0 b0 B1 a1 r1 t4 (g6 c16_1)) hk_L_low rfl vs_L_213 kc_L_low dL_areSounds_25 (Nat.le_of_ble_eq_true rfl) ?_
    refine gr_sub [4, 3, 2, 1, 0] rfl ?_
    exact k28 _ ((if_neg c16_1).symm)
  · refine gr_iconst C 0 dL_areSounds_19 (by decide) ?_
    refine gr_goto C 28 dL_areSounds_20 (by decide) ?_
    refine gr_sub [4, 3, 2, 1, 0] rfl ?_
    exact k28 _ ((if_pos c16_1).symm)
