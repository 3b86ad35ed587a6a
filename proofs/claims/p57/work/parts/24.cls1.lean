/-! THE CLASS, METHOD BY METHOD (1) -/
def w_X9_init (B : Nat × Nat) (a0 : Nat) (t : CS) (Q : CS → Prop) (X : String → CS → Prop) : Prop := (aOK t 192 a0 12) ∧ (szC t + 1 ≤ B.1 ∧ nsC t + 3 ≤ B.2) ∧ ∀ t3 : CS, t3 = uat t 192 a0 12 3 → (aOK t3 193 a0 12) ∧ (szC t3 + 1 ≤ B.1 ∧ nsC t3 + 3 ≤ B.2) ∧ ∀ t6 : CS, t6 = uat t3 193 a0 12 3 → (aOK t6 194 a0 12) ∧ (szC t6 + 1 ≤ B.1 ∧ nsC t6 + 3 ≤ B.2) ∧ ∀ t9 : CS, t9 = uat t6 194 a0 12 3 → (aOK t9 195 a0 12) ∧ (szC t9 + 1 ≤ B.1 ∧ nsC t9 + cLN 195 ≤ B.2) ∧ ∀ t12 : CS, t12 = uat t9 195 a0 12 (cLN 195) → ∀ t13 : CS, t13 = usI t12 196 a0 120 → ∀ t14 : CS, t14 = usI t13 197 a0 4 → ∀ t15 : CS, t15 = usI t14 198 a0 1500 → Q t15
set_option maxRecDepth 20000 in
set_option maxHeartbeats 2000000 in
theorem c_X9_init (l : Launch) (D : va_G) (K : Nat → ClassId) (E0 : Nat) (B : Nat × Nat) (A0 : Nat → Prop) (a0 : Nat) (t : CS) (Q : CS → Prop) (X : String → CS → Prop) (h : w_X9_init B a0 t Q X) : MetC l yX9_init cX9_init 1 none 4 [.ref a0] (qV Q) X D K E0 B A0 t := by
  unfold w_X9_init at h
  refine gc_start (by decide) rfl (Nat.le_of_ble_eq_true rfl) (fun p e s m args below meth c C E => ?_)
  refine gc_aloadn C 0 0 dX9_init_0 rfl rfl ?_
  refine gc_objInit C rfl (by decide) vo_X9_3 (Nat.le_of_ble_eq_true rfl) dX9_init_1 ?_
  refine gc_aloadn C 0 0 dX9_init_4 rfl rfl ?_
  obtain ⟨g1, h⟩ := h
  obtain ⟨g2, h⟩ := h
  refine gc_attL C BX9 192 0 (by decide) rfl rfl (by decide) ft_192 vf_X9_12 rfl rfl E.2 rfl (by decide +kernel) vn_X9_9 vk_X9_11 (Nat.le_of_ble_eq_true rfl) g1 g2 dX9_init_5 dX9_init_8 dX9_init_9 dX9_init_12 ?_
  refine gc_nameS (fun t3 et3 => ?_)
  have h := h t3 et3
  have lt3 : kdLe t t3 := by rw [et3]; exact uat_le g1.2.1
  have qt3 : isC t3 a0 12 := by rw [et3]; exact isC_uat g1.1 (by decide)
  refine gc_aloadn C 0 0 dX9_init_15 rfl rfl ?_
  obtain ⟨g4, h⟩ := h
  obtain ⟨g5, h⟩ := h
  refine gc_attL C BX9 193 1 (by decide) rfl rfl (by decide) ft_193 vf_X9_18 rfl rfl E.2 rfl (by decide +kernel) vn_X9_9 vk_X9_11 (Nat.le_of_ble_eq_true rfl) g4 g5 dX9_init_16 dX9_init_19 dX9_init_20 dX9_init_23 ?_
  refine gc_nameS (fun t6 et6 => ?_)
  have h := h t6 et6
  have lt6 : kdLe t3 t6 := by rw [et6]; exact uat_le g4.2.1
  have qt6 : isC t6 a0 12 := by rw [et6]; exact isC_uat qt3 (by decide)
  refine gc_aloadn C 0 0 dX9_init_26 rfl rfl ?_
  obtain ⟨g7, h⟩ := h
  obtain ⟨g8, h⟩ := h
  refine gc_attL C BX9 194 2 (by decide) rfl rfl (by decide) ft_194 vf_X9_21 rfl rfl E.2 rfl (by decide +kernel) vn_X9_9 vk_X9_11 (Nat.le_of_ble_eq_true rfl) g7 g8 dX9_init_27 dX9_init_30 dX9_init_31 dX9_init_34 ?_
  refine gc_nameS (fun t9 et9 => ?_)
  have h := h t9 et9
  have lt9 : kdLe t6 t9 := by rw [et9]; exact uat_le g7.2.1
  have qt9 : isC t9 a0 12 := by rw [et9]; exact isC_uat qt6 (by decide)
  refine gc_aloadn C 0 0 dX9_init_37 rfl rfl ?_
  refine gc_iconst C 4 dX9_init_38 (by decide) ?_
  obtain ⟨g10, h⟩ := h
  obtain ⟨g11, h⟩ := h
  refine gc_attI C BX9 195 3 (by decide) rfl (n := 4) v_i137 ft_195 vf_X9_24 rfl rfl E.2 rfl (by decide +kernel) (by decide) (by decide +kernel) (by decide +kernel) g10 g11 dX9_init_39 dX9_init_41 ?_
  refine gc_nameS (fun t12 et12 => ?_)
  have h := h t12 et12
  have lt12 : kdLe t9 t12 := by rw [et12]; exact uat_le g10.2.1
  have qt12 : isC t12 a0 12 := by rw [et12]; exact isC_uat qt9 (by decide)
  refine gc_aloadn C 0 0 dX9_init_44 rfl rfl ?_
  refine gc_bipush C 120 dX9_init_45 (by decide) ?_
  refine gc_putI C BX9 196 4 (by decide) rfl .int ft_196 vf_X9_28 rfl rfl (by decide +kernel) rfl rfl qt12 dX9_init_47 ?_
  refine gc_nameS (fun t13 et13 => ?_)
  have h := h t13 et13
  have lt13 : kdLe t12 t13 := kdLe.eq (by rw [et13]; rfl)
  have qt13 : isC t13 a0 12 := by rw [et13]; exact qt12
  refine gc_aloadn C 0 0 dX9_init_50 rfl rfl ?_
  refine gc_iconst C 4 dX9_init_51 (by decide) ?_
  refine gc_putI C BX9 197 5 (by decide) rfl .int ft_197 vf_X9_32 rfl rfl (by decide +kernel) rfl rfl qt13 dX9_init_52 ?_
  refine gc_nameS (fun t14 et14 => ?_)
  have h := h t14 et14
  have lt14 : kdLe t13 t14 := kdLe.eq (by rw [et14]; rfl)
  have qt14 : isC t14 a0 12 := by rw [et14]; exact qt13
  refine gc_aloadn C 0 0 dX9_init_55 rfl rfl ?_
  refine gc_sipush C 1500 dX9_init_56 (by decide) ?_
  refine gc_putI C BX9 198 6 (by decide) rfl .int ft_198 vf_X9_35 rfl rfl (by decide +kernel) rfl rfl qt14 dX9_init_59 ?_
  refine gc_nameS (fun t15 et15 => ?_)
  have h := h t15 et15
  have lt15 : kdLe t14 t15 := kdLe.eq (by rw [et15]; rfl)
  have qt15 : isC t15 a0 12 := by rw [et15]; exact qt14
  exact gc_vret C E (kdLe.tr lt3 (kdLe.tr lt6 (kdLe.tr lt9 (kdLe.tr lt12 (kdLe.tr lt13 (kdLe.tr lt14 lt15)))))) dX9_init_62 ⟨rfl, h⟩
def w_X6_init (B : Nat × Nat) (a0 : Nat) (t : CS) (Q : CS → Prop) (X : String → CS → Prop) : Prop := (aOK t 144 a0 9) ∧ (szC t + 1 ≤ B.1 ∧ nsC t + cLN 144 ≤ B.2) ∧ ∀ t3 : CS, t3 = uat t 144 a0 9 (cLN 144) → (aOK t3 145 a0 9) ∧ (szC t3 + 1 ≤ B.1 ∧ nsC t3 + cLN 145 ≤ B.2) ∧ ∀ t6 : CS, t6 = uat t3 145 a0 9 (cLN 145) → (aOK t6 148 a0 9) ∧ (szC t6 + 1 ≤ B.1 ∧ nsC t6 + 3 ≤ B.2) ∧ ∀ t9 : CS, t9 = uat t6 148 a0 9 3 → ∀ t10 : CS, t10 = usI t9 150 a0 (-1) → (aOK t10 151 a0 9) ∧ (szC t10 + 1 ≤ B.1 ∧ nsC t10 + cLN 151 ≤ B.2) ∧ ∀ t13 : CS, t13 = uat t10 151 a0 9 (cLN 151) → (aOK t13 152 a0 9) ∧ (szC t13 + 1 ≤ B.1 ∧ nsC t13 + cLN 152 ≤ B.2) ∧ ∀ t16 : CS, t16 = uat t13 152 a0 9 (cLN 152) → (aOK t16 153 a0 9) ∧ (szC t16 + 1 ≤ B.1 ∧ nsC t16 + cLN 153 ≤ B.2) ∧ ∀ t19 : CS, t19 = uat t16 153 a0 9 (cLN 153) → Q t19
set_option maxRecDepth 20000 in
set_option maxHeartbeats 2000000 in
theorem c_X6_init (l : Launch) (D : va_G) (K : Nat → ClassId) (E0 : Nat) (B : Nat × Nat) (A0 : Nat → Prop) (a0 : Nat) (t : CS) (Q : CS → Prop) (X : String → CS → Prop) (h : w_X6_init B a0 t Q X) : MetC l yX6_init cX6_init 1 none 4 [.ref a0] (qV Q) X D K E0 B A0 t := by
  unfold w_X6_init at h
  refine gc_start (by decide) rfl (Nat.le_of_ble_eq_true rfl) (fun p e s m args below meth c C E => ?_)
  refine gc_aloadn C 0 0 dX6_init_0 rfl rfl ?_
  refine gc_objInit C rfl (by decide) vo_X6_3 (Nat.le_of_ble_eq_true rfl) dX6_init_1 ?_
  refine gc_aloadn C 0 0 dX6_init_4 rfl rfl ?_
  refine gc_bipush C 48 dX6_init_5 (by decide) ?_
  obtain ⟨g1, h⟩ := h
  obtain ⟨g2, h⟩ := h
  refine gc_attI C BX6 144 0 (by decide) rfl (n := 48) v_i137 ft_144 vf_X6_11 rfl rfl E.2 rfl (by decide +kernel) (by decide) (by decide +kernel) (by decide +kernel) g1 g2 dX6_init_7 dX6_init_9 ?_
  refine gc_nameS (fun t3 et3 => ?_)
  have h := h t3 et3
  have lt3 : kdLe t t3 := by rw [et3]; exact uat_le g1.2.1
  have qt3 : isC t3 a0 9 := by rw [et3]; exact isC_uat g1.1 (by decide)
  refine gc_aloadn C 0 0 dX6_init_12 rfl rfl ?_
  refine gc_bipush C 48 dX6_init_13 (by decide) ?_
  obtain ⟨g4, h⟩ := h
  obtain ⟨g5, h⟩ := h
  refine gc_attI C BX6 145 1 (by decide) rfl (n := 48) v_i137 ft_145 vf_X6_15 rfl rfl E.2 rfl (by decide +kernel) (by decide) (by decide +kernel) (by decide +kernel) g4 g5 dX6_init_15 dX6_init_17 ?_
  refine gc_nameS (fun t6 et6 => ?_)
  have h := h t6 et6
  have lt6 : kdLe t3 t6 := by rw [et6]; exact uat_le g4.2.1
  have qt6 : isC t6 a0 9 := by rw [et6]; exact isC_uat qt3 (by decide)
  refine gc_aloadn C 0 0 dX6_init_20 rfl rfl ?_
  obtain ⟨g7, h⟩ := h
  obtain ⟨g8, h⟩ := h
  refine gc_attL C BX6 148 4 (by decide) rfl rfl (by decide) ft_148 vf_X6_21 rfl rfl E.2 rfl (by decide +kernel) vn_X6_18 vk_X6_20 (Nat.le_of_ble_eq_true rfl) g7 g8 dX6_init_21 dX6_init_24 dX6_init_25 dX6_init_28 ?_
  refine gc_nameS (fun t9 et9 => ?_)
  have h := h t9 et9
  have lt9 : kdLe t6 t9 := by rw [et9]; exact uat_le g7.2.1
  have qt9 : isC t9 a0 9 := by rw [et9]; exact isC_uat qt6 (by decide)
  refine gc_aloadn C 0 0 dX6_init_31 rfl rfl ?_
  refine gc_iconst C (-1) dX6_init_32 (by decide) ?_
  refine gc_putI C BX6 150 6 (by decide) rfl .int ft_150 vf_X6_25 rfl rfl (by decide +kernel) rfl rfl qt9 dX6_init_33 ?_
  refine gc_nameS (fun t10 et10 => ?_)
  have h := h t10 et10
  have lt10 : kdLe t9 t10 := kdLe.eq (by rw [et10]; rfl)
  have qt10 : isC t10 a0 9 := by rw [et10]; exact qt9
  refine gc_aloadn C 0 0 dX6_init_36 rfl rfl ?_
  refine gc_iconst C 4 dX6_init_37 (by decide) ?_
  obtain ⟨g11, h⟩ := h
  obtain ⟨g12, h⟩ := h
  refine gc_attQ C BX6 151 7 (by decide) rfl (n := 4) (CQ := RX10) 5 rfl v_i146 n_i147 ft_151 vf_X6_31 rfl rfl E.2 rfl (by decide +kernel) (by decide) (by decide +kernel) (by decide +kernel) g11 g12 dX6_init_38 dX6_init_41 ?_
  refine gc_nameS (fun t13 et13 => ?_)
  have h := h t13 et13
  have lt13 : kdLe t10 t13 := by rw [et13]; exact uat_le g11.2.1
  have qt13 : isC t13 a0 9 := by rw [et13]; exact isC_uat qt10 (by decide)
  refine gc_aloadn C 0 0 dX6_init_44 rfl rfl ?_
  refine gc_iconst C 4 dX6_init_45 (by decide) ?_
  obtain ⟨g14, h⟩ := h
  obtain ⟨g15, h⟩ := h
  refine gc_attI C BX6 152 8 (by decide) rfl (n := 4) v_i137 ft_152 vf_X6_35 rfl rfl E.2 rfl (by decide +kernel) (by decide) (by decide +kernel) (by decide +kernel) g14 g15 dX6_init_46 dX6_init_48 ?_
  refine gc_nameS (fun t16 et16 => ?_)
  have h := h t16 et16
  have lt16 : kdLe t13 t16 := by rw [et16]; exact uat_le g14.2.1
  have qt16 : isC t16 a0 9 := by rw [et16]; exact isC_uat qt13 (by decide)
  refine gc_aloadn C 0 0 dX6_init_51 rfl rfl ?_
  refine gc_iconst C 4 dX6_init_52 (by decide) ?_
  obtain ⟨g17, h⟩ := h
  obtain ⟨g18, h⟩ := h
  refine gc_attI C BX6 153 9 (by decide) rfl (n := 4) v_i137 ft_153 vf_X6_38 rfl rfl E.2 rfl (by decide +kernel) (by decide) (by decide +kernel) (by decide +kernel) g17 g18 dX6_init_53 dX6_init_55 ?_
  refine gc_nameS (fun t19 et19 => ?_)
  have h := h t19 et19
  have lt19 : kdLe t16 t19 := by rw [et19]; exact uat_le g17.2.1
  have qt19 : isC t19 a0 9 := by rw [et19]; exact isC_uat qt16 (by decide)
  exact gc_vret C E (kdLe.tr lt3 (kdLe.tr lt6 (kdLe.tr lt9 (kdLe.tr lt10 (kdLe.tr lt13 (kdLe.tr lt16 lt19)))))) dX6_init_58 ⟨rfl, h⟩
def w_X11_init (B : Nat × Nat) (a0 : Nat) (t : CS) (Q : CS → Prop) (X : String → CS → Prop) : Prop := (szC t + 1 ≤ B.1 ∧ nsC t + cNF 12 ≤ B.2) ∧ ∀ _ : kdC t (szC t) = 0, ∀ t3 : CS, t3 = newO t 12 → w_X9_init B (szC t) t3 (fun t4 => (isC t4 a0 14) ∧ ∀ t6 : CS, t6 = usR t4 224 a0 (some (szC t)) → (szC t6 + 1 ≤ B.1 ∧ nsC t6 + cNF 9 ≤ B.2) ∧ ∀ _ : kdC t6 (szC t6) = 0, ∀ t9 : CS, t9 = newO t6 9 → w_X6_init B (szC t6) t9 (fun t10 => (isC t10 a0 14) ∧ ∀ t12 : CS, t12 = usR t10 225 a0 (some (szC t6)) → (aOK t12 226 a0 14) ∧ (szC t12 + 1 ≤ B.1 ∧ nsC t12 + cLN 226 ≤ B.2) ∧ ∀ t15 : CS, t15 = uat t12 226 a0 14 (cLN 226) → Q t15) X) X
set_option maxRecDepth 20000 in
set_option maxHeartbeats 2000000 in
theorem c_X11_init (l : Launch) (D : va_G) (K : Nat → ClassId) (E0 : Nat) (B : Nat × Nat) (A0 : Nat → Prop) (a0 : Nat) (t : CS) (Q : CS → Prop) (X : String → CS → Prop) (h : w_X11_init B a0 t Q X) : MetC l yX11_init cX11_init 1 none 5 [.ref a0] (qV Q) X D K E0 B A0 t := by
  unfold w_X11_init at h
  refine gc_start (by decide) rfl (Nat.le_of_ble_eq_true rfl) (fun p e s m args below meth c C E => ?_)
  refine gc_aloadn C 0 0 dX11_init_0 rfl rfl ?_
  refine gc_objInit C rfl (by decide) vo_X11_1 (Nat.le_of_ble_eq_true rfl) dX11_init_1 ?_
  refine gc_aloadn C 0 0 dX11_init_4 rfl rfl ?_
  obtain ⟨g1, h⟩ := h
  refine gc_new C BX9 hd_X9 vn_X11_7 g1 dX11_init_5 (fun hz2 => ?_)
  have h := h hz2
  refine gc_nameS (fun t3 et3 => ?_)
  have h := h t3 et3
  have lt3 : kdLe t t3 := by rw [et3]; exact newO_le hz2
  refine gc_dup C dX11_init_8 rfl ?_
  refine gc_callIN C (y := yX9_init) (as := []) (host := "ScoreHouse") rfl (by decide) (by decide) (c_X9_init l D K E0 B A0 (szC t) t3 _ X h) hk_X9_init rfl rfl n_i72 vl_X11_9 kc_X9_init dX11_init_9 (Nat.le_of_ble_eq_true rfl) (fun _ _ h => h) (qkV (fun t4 h lt4 => ?_))
  obtain ⟨g5, h⟩ := h
  refine gc_putRF C BX11 224 0 (by decide) rfl "ScoreHouse$Score" ft_224 vf_X11_10 rfl rfl E.2 rfl (by decide +kernel) g5 dX11_init_12 ?_
  refine gc_nameS (fun t6 et6 => ?_)
  have h := h t6 et6
  have lt6 : kdLe t4 t6 := kdLe.eq (by rw [et6]; rfl)
  have qt6 : isC t6 a0 14 := by rw [et6]; exact g5
  refine gc_aloadn C 0 0 dX11_init_15 rfl rfl ?_
  obtain ⟨g7, h⟩ := h
  refine gc_new C BX6 hd_X6 vn_X11_16 g7 dX11_init_16 (fun hz8 => ?_)
  have h := h hz8
  refine gc_nameS (fun t9 et9 => ?_)
  have h := h t9 et9
  have lt9 : kdLe t6 t9 := by rw [et9]; exact newO_le hz8
  refine gc_dup C dX11_init_19 rfl ?_
  refine gc_callIN C (y := yX6_init) (as := []) (host := "ScoreHouse") rfl (by decide) (by decide) (c_X6_init l D K E0 B A0 (szC t6) t9 _ X h) hk_X6_init rfl rfl n_i140 vl_X11_18 kc_X6_init dX11_init_20 (Nat.le_of_ble_eq_true rfl) (fun _ _ h => h) (qkV (fun t10 h lt10 => ?_))
  obtain ⟨g11, h⟩ := h
  refine gc_putRF C BX11 225 1 (by decide) rfl "ScoreHouse$Playing" ft_225 vf_X11_19 rfl rfl E.2 rfl (by decide +kernel) g11 dX11_init_23 ?_
  refine gc_nameS (fun t12 et12 => ?_)
  have h := h t12 et12
  have lt12 : kdLe t10 t12 := kdLe.eq (by rw [et12]; rfl)
  have qt12 : isC t12 a0 14 := by rw [et12]; exact g11
  refine gc_aloadn C 0 0 dX11_init_26 rfl rfl ?_
  refine gc_iconst C 4 dX11_init_27 (by decide) ?_
  obtain ⟨g13, h⟩ := h
  obtain ⟨g14, h⟩ := h
  refine gc_attQ C BX11 226 2 (by decide) rfl (n := 4) (CQ := RX4) 3 rfl v_i185 n_i186 ft_226 vf_X11_25 rfl rfl E.2 rfl (by decide +kernel) (by decide) (by decide +kernel) (by decide +kernel) g13 g14 dX11_init_28 dX11_init_31 ?_
  refine gc_nameS (fun t15 et15 => ?_)
  have h := h t15 et15
  have lt15 : kdLe t12 t15 := by rw [et15]; exact uat_le g13.2.1
  have qt15 : isC t15 a0 14 := by rw [et15]; exact isC_uat qt12 (by decide)
  exact gc_vret C E (kdLe.tr lt3 (kdLe.tr lt4 (kdLe.tr lt6 (kdLe.tr lt9 (kdLe.tr lt10 (kdLe.tr lt12 lt15)))))) dX11_init_34 ⟨rfl, h⟩
def w_X11_requireRange (B : Nat × Nat) (a1 : Int32) (a2 : Int32) (a3 : Int32) (t : CS) (Q : CS → Prop) (X : String → CS → Prop) : Prop := (((a1 < a2) ∨ (¬ (a1 ≤ a3))) → (szC t + 1 ≤ B.1 ∧ nsC t + 6 ≤ B.2) ∧ ∀ sz ns : Nat, X "java/lang/IllegalArgumentException" (rsz t sz ns)) ∧ (¬ ((a1 < a2) ∨ (¬ (a1 ≤ a3))) → Q t)
set_option maxRecDepth 20000 in
set_option maxHeartbeats 2000000 in
theorem c_X11_requireRange (l : Launch) (D : va_G) (K : Nat → ClassId) (E0 : Nat) (B : Nat × Nat) (A0 : Nat → Prop) (a1 : Int32) (a2 : Int32) (a3 : Int32) (t : CS) (Q : CS → Prop) (X : String → CS → Prop) (h : w_X11_requireRange B a1 a2 a3 t Q X) : MetC l yX11_requireRange cX11_requireRange 3 none 6 [.int a1, .int a2, .int a3] (qV Q) X D K E0 B A0 t := by
  unfold w_X11_requireRange at h
  refine gc_start (by decide) rfl (Nat.le_of_ble_eq_true rfl) (fun p e s m args below meth c C E => ?_)
  refine gc_iloadn C 0 0 dX11_requireRange_0 rfl rfl ?_
  refine gc_iloadn C 1 1 dX11_requireRange_1 rfl rfl ?_
  have kt0 : ((a1 < a2) ∨ (¬ (a1 ≤ a3))) → GC p l e (rmC 6 B t) s m args below meth c 3 D K E0 B A0 (gc_Q below D K E0 A0 (qV Q) X args s t (rmC 6 B t)) t 10 [(0, .int a1), (1, .int a2), (2, .int a3)] [] := by
    intro hc
    have h := h.1 hc
    obtain ⟨g1, h⟩ := h
    exact gc_throwSW C (text := "an argument is out of range") rfl (by decide) (Nat.le_of_ble_eq_true rfl) ex_X11_105_109 (by decide +kernel) dX11_requireRange_10 dX11_requireRange_13 dX11_requireRange_14 dX11_requireRange_17 dX11_requireRange_20 g1 h
  have kf0 : ¬ ((a1 < a2) ∨ (¬ (a1 ≤ a3))) → GC p l e (rmC 6 B t) s m args below meth c 3 D K E0 B A0 (gc_Q below D K E0 A0 (qV Q) X args s t (rmC 6 B t)) t 21 [(0, .int a1), (1, .int a2), (2, .int a3)] [] := by
    intro hc
    have h := h.2 hc
    exact gc_vret C E (kdLe.rf _) dX11_requireRange_21 ⟨rfl, h⟩
  refine gc_icmp_lt C 10 dX11_requireRange_2 (by decide) (fun c2_1 => ?_) (fun c2_1 => ?_)
  · exact kt0 (Or.inl c2_1)
  · refine gc_iloadn C 0 0 dX11_requireRange_5 rfl rfl ?_
    refine gc_iloadn C 2 2 dX11_requireRange_6 rfl rfl ?_
    refine gc_icmp_le C 21 dX11_requireRange_7 (by decide) (fun c7_2 => ?_) (fun c7_2 => ?_)
    · exact kf0 (fun q0 => Or.elim q0 c2_1 (fun q1 => q1 c7_2))
    · exact kt0 (Or.inr c7_2)
def w_X11_requireMetre (B : Nat × Nat) (a1 : Int32) (a2 : Int32) (t : CS) (Q : CS → Prop) (X : String → CS → Prop) : Prop := w_X11_requireRange B a1 1 9 t (fun t1 => (((a2 = 2) ∨ ((a2 = 4) ∨ (a2 = 8))) → Q t1) ∧ (¬ ((a2 = 2) ∨ ((a2 = 4) ∨ (a2 = 8))) → (szC t1 + 1 ≤ B.1 ∧ nsC t1 + 6 ≤ B.2) ∧ ∀ sz ns : Nat, X "java/lang/IllegalArgumentException" (rsz t1 sz ns))) X
set_option maxRecDepth 20000 in
set_option maxHeartbeats 2000000 in
theorem c_X11_requireMetre (l : Launch) (D : va_G) (K : Nat → ClassId) (E0 : Nat) (B : Nat × Nat) (A0 : Nat → Prop) (a1 : Int32) (a2 : Int32) (t : CS) (Q : CS → Prop) (X : String → CS → Prop) (h : w_X11_requireMetre B a1 a2 t Q X) : MetC l yX11_requireMetre cX11_requireMetre 2 none 7 [.int a1, .int a2] (qV Q) X D K E0 B A0 t := by
  unfold w_X11_requireMetre at h
  refine gc_start (by decide) rfl (Nat.le_of_ble_eq_true rfl) (fun p e s m args below meth c C E => ?_)
  refine gc_iloadn C 0 0 dX11_requireMetre_0 rfl rfl ?_
  refine gc_iconst C 1 dX11_requireMetre_1 (by decide) ?_
  refine gc_bipush C 9 dX11_requireMetre_2 (by decide) ?_
  refine gc_callS C (y := yX11_requireRange) (as := [.int a1, .int 1, .int 9]) rfl (by decide) (by decide) (c_X11_requireRange l D K E0 B A0 a1 1 9 t _ X h) hk_X11_requireRange rfl vl_X11_88 kc_X11_requireRange dX11_requireMetre_4 (Nat.le_of_ble_eq_true rfl) (fun _ _ h => h) (qkV (fun t1 h lt1 => ?_))
  refine gc_iloadn C 1 1 dX11_requireMetre_7 rfl rfl ?_
  refine gc_iconst C 2 dX11_requireMetre_8 (by decide) ?_
  have kt0 : ((a2 = 2) ∨ ((a2 = 4) ∨ (a2 = 8))) → GC p l e (rmC 7 B t) s m args below meth c 2 D K E0 B A0 (gc_Q below D K E0 A0 (qV Q) X args s t (rmC 7 B t)) t1 34 [(0, .int a1), (1, .int a2)] [] := by
    intro hc
    have h := h.1 hc
    exact gc_vret C E lt1 dX11_requireMetre_34 ⟨rfl, h⟩
  have kf0 : ¬ ((a2 = 2) ∨ ((a2 = 4) ∨ (a2 = 8))) → GC p l e (rmC 7 B t) s m args below meth c 2 D K E0 B A0 (gc_Q below D K E0 A0 (qV Q) X args s t (rmC 7 B t)) t1 23 [(0, .int a1), (1, .int a2)] [] := by
    intro hc
    have h := h.2 hc
    obtain ⟨g2, h⟩ := h
    exact gc_throwSW C (text := "the unit is not 2, 4 or 8") rfl (by decide) (Nat.le_of_ble_eq_true rfl) ex_X11_105_109 (by decide +kernel) dX11_requireMetre_23 dX11_requireMetre_26 dX11_requireMetre_27 dX11_requireMetre_30 dX11_requireMetre_33 g2 h
  refine gc_icmp_eq C 34 dX11_requireMetre_9 (by decide) (fun c9_1 => ?_) (fun c9_1 => ?_)
  · exact kt0 (Or.inl c9_1)
  · refine gc_iloadn C 1 1 dX11_requireMetre_12 rfl rfl ?_
    refine gc_iconst C 4 dX11_requireMetre_13 (by decide) ?_
    refine gc_icmp_eq C 34 dX11_requireMetre_14 (by decide) (fun c14_2 => ?_) (fun c14_2 => ?_)
    · exact kt0 (Or.inr (Or.inl c14_2))
    · refine gc_iloadn C 1 1 dX11_requireMetre_17 rfl rfl ?_
      refine gc_bipush C 8 dX11_requireMetre_18 (by decide) ?_
      refine gc_icmp_eq C 34 dX11_requireMetre_20 (by decide) (fun c20_3 => ?_) (fun c20_3 => ?_)
      · exact kt0 (Or.inr (Or.inr c20_3))
      · exact kf0 (fun q0 => Or.elim q0 c9_1 (fun q1 => Or.elim q1 c14_2 c20_3))
def v_X9_barCount (a0 : Nat) (t : CS) : Int32 := (nI (fL t 192 a0).length)
def d_X9_barCount (a0 : Nat) (t : CS) : Prop := (kdC t a0 = 12)
set_option maxRecDepth 20000 in
theorem c_X9_barCount (l : Launch) (D : va_G) (K : Nat → ClassId) (E0 : Nat) (B : Nat × Nat) (A0 : Nat → Prop) (a0 : Nat) (t : CS) (h : d_X9_barCount a0 t) : MetC l yX9_barCount cX9_barCount 1 (some .int) 3 [.ref a0] (qI (fun r t' => (v_X9_barCount a0 t) = r ∧ t = t')) (fun _ _ => False) D K E0 B A0 t := by
  have u1 := h
  refine gc_start (by decide) rfl (Nat.le_of_ble_eq_true rfl) (fun p e s m args below meth c C E => ?_)
  refine gc_aloadn C 0 0 dX9_barCount_0 rfl rfl ?_
  refine gc_getE C BX9 192 0 (by decide) rfl fe_192 vf_X9_12 rfl u1 dX9_barCount_1 ?_
  refine gc_lsSize C (ci := 12) (k0 := 0) 192 (by decide) (by decide) (by decide) rfl ft_192 rfl (by decide) u1 vj_X9_38 dX9_barCount_4 (Nat.le_of_ble_eq_true rfl) ?_
  exact gc_iret C E (kdLe.rf _) dX9_barCount_7 ⟨_, rfl, (rfl), rfl⟩
def w_X8_init (B : Nat × Nat) (a0 : Nat) (t : CS) (Q : CS → Prop) (X : String → CS → Prop) : Prop := (aOK t 176 a0 11) ∧ (szC t + 1 ≤ B.1 ∧ nsC t + 3 ≤ B.2) ∧ ∀ t3 : CS, t3 = uat t 176 a0 11 3 → Q t3
set_option maxRecDepth 20000 in
set_option maxHeartbeats 2000000 in
theorem c_X8_init (l : Launch) (D : va_G) (K : Nat → ClassId) (E0 : Nat) (B : Nat × Nat) (A0 : Nat → Prop) (a0 : Nat) (t : CS) (Q : CS → Prop) (X : String → CS → Prop) (h : w_X8_init B a0 t Q X) : MetC l yX8_init cX8_init 1 none 4 [.ref a0] (qV Q) X D K E0 B A0 t := by
  unfold w_X8_init at h
  refine gc_start (by decide) rfl (Nat.le_of_ble_eq_true rfl) (fun p e s m args below meth c C E => ?_)
  refine gc_aloadn C 0 0 dX8_init_0 rfl rfl ?_
  refine gc_objInit C rfl (by decide) vo_X8_3 (Nat.le_of_ble_eq_true rfl) dX8_init_1 ?_
  refine gc_aloadn C 0 0 dX8_init_4 rfl rfl ?_
  obtain ⟨g1, h⟩ := h
  obtain ⟨g2, h⟩ := h
  refine gc_attL C BX8 176 0 (by decide) rfl rfl (by decide) ft_176 vf_X8_12 rfl rfl E.2 rfl (by decide +kernel) vn_X8_9 vk_X8_11 (Nat.le_of_ble_eq_true rfl) g1 g2 dX8_init_5 dX8_init_8 dX8_init_9 dX8_init_12 ?_
  refine gc_nameS (fun t3 et3 => ?_)
  have h := h t3 et3
  have lt3 : kdLe t t3 := by rw [et3]; exact uat_le g1.2.1
  have qt3 : isC t3 a0 11 := by rw [et3]; exact isC_uat g1.1 (by decide)
  exact gc_vret C E lt3 dX8_init_15 ⟨rfl, h⟩
def w_X2_init_L29 (B : Nat × Nat) (a0 : Nat) (Q : CS → Prop) (X : String → CS → Prop) (K29 : (Int32 × CS) → Prop) (z29 : Int32 × CS) : Prop := ((4 ≤ z29.1) → Q z29.2) ∧ (¬ (4 ≤ z29.1) → (kdC z29.2 a0 = 5) ∧ (szC z29.2 + 1 ≤ B.1 ∧ nsC z29.2 + cNF 11 ≤ B.2) ∧ ∀ _ : kdC z29.2 (szC z29.2) = 0, ∀ t11 : CS, t11 = newO z29.2 11 → w_X8_init B (szC z29.2) t11 (fun t12 => (kdC t12 (szC z29.2) = 11) ∧ (vp_in z29.1 (cLN 83)) ∧ ∀ t15 : CS, t15 = usQ t12 83 a0 z29.1 (some (szC z29.2)) → K29 ((z29.1 + 1), t15)) X)
def w_X2_init (B : Nat × Nat) (a0 : Nat) (a1 : Int32) (a2 : Int32) (t : CS) (Q : CS → Prop) (X : String → CS → Prop) : Prop := (isC t a0 5) ∧ ∀ t2 : CS, t2 = usI t 80 a0 a1 → ∀ t3 : CS, t3 = usI t2 81 a0 a2 → ∀ t4 : CS, t4 = usI t3 82 a0 (-1) → (aOK t4 83 a0 5) ∧ (szC t4 + 1 ≤ B.1 ∧ nsC t4 + cLN 83 ≤ B.2) ∧ ∀ t7 : CS, t7 = uat t4 83 a0 5 (cLN 83) → ∃ n, lp (w_X2_init_L29 B a0 Q X) n (0, t7)
set_option maxRecDepth 20000 in
set_option maxHeartbeats 2000000 in
theorem c_X2_init (l : Launch) (D : va_G) (K : Nat → ClassId) (E0 : Nat) (B : Nat × Nat) (A0 : Nat → Prop) (a0 : Nat) (a1 : Int32) (a2 : Int32) (t : CS) (Q : CS → Prop) (X : String → CS → Prop) (h : w_X2_init B a0 a1 a2 t Q X) : MetC l yX2_init cX2_init 4 none 5 [.ref a0, .int a1, .int a2] (qV Q) X D K E0 B A0 t := by
  unfold w_X2_init at h
  refine gc_start (by decide) rfl (Nat.le_of_ble_eq_true rfl) (fun p e s m args below meth c C E => ?_)
  refine gc_aloadn C 0 0 dX2_init_0 rfl rfl ?_
  refine gc_objInit C rfl (by decide) vo_X2_3 (Nat.le_of_ble_eq_true rfl) dX2_init_1 ?_
  refine gc_aloadn C 0 0 dX2_init_4 rfl rfl ?_
  refine gc_iloadn C 1 1 dX2_init_5 rfl rfl ?_
  obtain ⟨g1, h⟩ := h
  refine gc_putI C BX2 80 0 (by decide) rfl .int ft_80 vf_X2_9 rfl rfl (by decide +kernel) rfl rfl g1 dX2_init_6 ?_
  refine gc_nameS (fun t2 et2 => ?_)
  have h := h t2 et2
  have lt2 : kdLe t t2 := kdLe.eq (by rw [et2]; rfl)
  have qt2 : isC t2 a0 5 := by rw [et2]; exact g1
  refine gc_aloadn C 0 0 dX2_init_9 rfl rfl ?_
  refine gc_iloadn C 2 2 dX2_init_10 rfl rfl ?_
  refine gc_putI C BX2 81 1 (by decide) rfl .int ft_81 vf_X2_15 rfl rfl (by decide +kernel) rfl rfl qt2 dX2_init_11 ?_
  refine gc_nameS (fun t3 et3 => ?_)
  have h := h t3 et3
  have lt3 : kdLe t2 t3 := kdLe.eq (by rw [et3]; rfl)
  have qt3 : isC t3 a0 5 := by rw [et3]; exact qt2
  refine gc_aloadn C 0 0 dX2_init_14 rfl rfl ?_
  refine gc_iconst C (-1) dX2_init_15 (by decide) ?_
  refine gc_putI C BX2 82 2 (by decide) rfl .int ft_82 vf_X2_18 rfl rfl (by decide +kernel) rfl rfl qt3 dX2_init_16 ?_
  refine gc_nameS (fun t4 et4 => ?_)
  have h := h t4 et4
  have lt4 : kdLe t3 t4 := kdLe.eq (by rw [et4]; rfl)
  have qt4 : isC t4 a0 5 := by rw [et4]; exact qt3
  refine gc_aloadn C 0 0 dX2_init_19 rfl rfl ?_
  refine gc_iconst C 4 dX2_init_20 (by decide) ?_
  obtain ⟨g5, h⟩ := h
  obtain ⟨g6, h⟩ := h
  refine gc_attQ C BX2 83 3 (by decide) rfl (n := 4) (CQ := RX8) 4 rfl v_i1142 n_i1143 ft_83 vf_X2_23 rfl rfl E.2 rfl (by decide +kernel) (by decide) (by decide +kernel) (by decide +kernel) g5 g6 dX2_init_21 dX2_init_24 ?_
  refine gc_nameS (fun t7 et7 => ?_)
  have h := h t7 et7
  have lt7 : kdLe t4 t7 := by rw [et7]; exact uat_le g5.2.1
  have qt7 : isC t7 a0 5 := by rw [et7]; exact isC_uat qt4 (by decide)
  refine gc_iconst C 0 dX2_init_27 (by decide) ?_
  refine gc_istoren C 3 [(3, .int 0), (0, .ref a0), (1, .int a1), (2, .int a2)] dX2_init_28 rfl (by decide) rfl ?_
  refine gc_sub [1, 0] rfl ?_
  obtain ⟨n29, h⟩ := h
  have k29 : ∀ (n29 : Nat) (z29 : Int32 × CS), kdLe t7 z29.2 → lp (w_X2_init_L29 B a0 Q X) n29 z29 → GC p l e (rmC 5 B t) s m args below meth c 4 D K E0 B A0 (gc_Q below D K E0 A0 (qV Q) X args s t (rmC 5 B t)) z29.2 29 [(0, .ref a0), (3, .int z29.1)] [] := by
    intro n29
    induction n29 with
    | zero => intro z29 lz29 h; exact h.elim
    | succ n29 ih29 =>
      intro z29 lz29 h
      have h : w_X2_init_L29 B a0 Q X (lp (w_X2_init_L29 B a0 Q X) n29) z29 := h
      unfold w_X2_init_L29 at h
      refine gc_iloadn C 1 3 dX2_init_29 rfl rfl ?_
      refine gc_iconst C 4 dX2_init_30 (by decide) ?_
      refine gc_icmp_ge C 53 dX2_init_31 (by decide) (fun c31_1 => ?_) (fun c31_1 => ?_)
      · have h := h.1 c31_1
        exact gc_vret C E (kdLe.tr lt2 (kdLe.tr lt3 (kdLe.tr lt4 (kdLe.tr lt7 lz29)))) dX2_init_53 ⟨rfl, h⟩
      · have h := h.2 c31_1
        refine gc_aloadn C 0 0 dX2_init_34 rfl rfl ?_
        obtain ⟨g8, h⟩ := h
        refine gc_getE C BX2 83 3 (by decide) rfl fe_83 vf_X2_23 rfl g8 dX2_init_35 ?_
        refine gc_iloadn C 1 3 dX2_init_38 rfl rfl ?_
        obtain ⟨g9, h⟩ := h
        refine gc_new C BX8 hd_X8 vn_X2_21 g9 dX2_init_39 (fun hz10 => ?_)
        have h := h hz10
        refine gc_nameS (fun t11 et11 => ?_)
        have h := h t11 et11
        have lt11 : kdLe z29.2 t11 := by rw [et11]; exact newO_le hz10
        refine gc_dup C dX2_init_42 rfl ?_
        refine gc_callIN C (y := yX8_init) (as := []) (host := "ScoreHouse") rfl (by decide) (by decide) (c_X8_init l D K E0 B A0 (szC z29.2) t11 _ X h) hk_X8_init rfl rfl n_i1145 vl_X2_27 kc_X8_init dX2_init_43 (Nat.le_of_ble_eq_true rfl) (fun _ _ h => h) (qkV (fun t12 h lt12 => ?_))
        obtain ⟨g13, h⟩ := h
        obtain ⟨g14, h⟩ := h
        refine gc_qast C (ci := 5) (k0 := 3) 83 (by decide) (by decide) (by decide) rfl (r := (RX8, TX8, 3)) 4 rfl rfl (by decide) (by decide) (isC_of g13 (by decide)) ft_83 (by decide) (kdLe.k (kdLe.tr lt11 lt12) g8 (by decide) (by decide)) g14 dX2_init_46 ?_
        refine gc_nameS (fun t15 et15 => ?_)
        have h := h t15 et15
        have lt15 : kdLe t12 t15 := kdLe.eq (by rw [et15]; rfl)
        refine gc_iinc C 1 (z29.1 + 1) [(3, .int (z29.1 + 1)), (0, .ref a0)] dX2_init_47 rfl rfl (by decide) rfl ?_
        refine gc_goto C 29 dX2_init_50 (by decide) ?_
        refine gc_sub [1, 0] rfl ?_
        have h9 := ih29 ((z29.1 + 1), t15) (kdLe.tr lz29 (kdLe.tr lt11 (kdLe.tr lt12 lt15))) h
        exact h9
  exact k29 n29 (0, t7) (kdLe.rf _) h
def w_X11_addBar (B : Nat × Nat) (a0 : Nat) (a1 : Int32) (a2 : Int32) (t : CS) (Q : Int32 → CS → Prop) (X : String → CS → Prop) : Prop := w_X11_requireMetre B a1 a2 t (fun t1 => (kdC t1 a0 = 14) ∧ ((fR t1 224 a0) ≠ none) ∧ (kdC t1 (oG (fR t1 224 a0)) = 12) ∧ (d_X9_barCount (oG (fR t1 224 a0)) t1) ∧ (((v_X9_barCount (oG (fR t1 224 a0)) t1) < 24) → (szC t1 + 1 ≤ B.1 ∧ nsC t1 + cNF 5 ≤ B.2) ∧ ∀ _ : kdC t1 (szC t1) = 0, ∀ t8 : CS, t8 = newO t1 5 → w_X2_init B (szC t1) a1 a2 t8 (fun t9 => (lOK t9 192 (oG (fR t1 224 a0))) ∧ (kdC t9 (szC t1) = 5) ∧ (szC t9 + lcA t9 192 (oG (fR t1 224 a0)) ≤ B.1 ∧ nsC t9 + lcS t9 192 (oG (fR t1 224 a0)) ≤ B.2) ∧ ∀ sz13 ns13 : Nat, szC t9 ≤ sz13 → sz13 ≤ szC t9 + lcA t9 192 (oG (fR t1 224 a0)) → ns13 ≤ nsC t9 + lcS t9 192 (oG (fR t1 224 a0)) → ∀ t14 : CS, t14 = usL t9 192 (oG (fR t1 224 a0)) (fL t9 192 (oG (fR t1 224 a0)) ++ [(szC t1)]) (capA t9 192 (oG (fR t1 224 a0))) sz13 ns13 → ((fR t14 224 a0) ≠ none) ∧ (kdC t14 (oG (fR t14 224 a0)) = 12) ∧ ∀ t17 : CS, t17 = usI t14 199 (oG (fR t14 224 a0)) ((fI t14 199 (oG (fR t14 224 a0))) + 1) → ((fR t17 224 a0) ≠ none) ∧ (kdC t17 (oG (fR t17 224 a0)) = 12) ∧ (d_X9_barCount (oG (fR t17 224 a0)) t17) ∧ Q ((v_X9_barCount (oG (fR t17 224 a0)) t17) - 1) t17) X) ∧ (¬ ((v_X9_barCount (oG (fR t1 224 a0)) t1) < 24) → (szC t1 + 1 ≤ B.1 ∧ nsC t1 + 6 ≤ B.2) ∧ ∀ sz ns : Nat, X "java/lang/IllegalStateException" (rsz t1 sz ns))) X
set_option maxRecDepth 20000 in
set_option maxHeartbeats 2000000 in
theorem c_X11_addBar (l : Launch) (D : va_G) (K : Nat → ClassId) (E0 : Nat) (B : Nat × Nat) (A0 : Nat → Prop) (a0 : Nat) (a1 : Int32) (a2 : Int32) (t : CS) (Q : Int32 → CS → Prop) (X : String → CS → Prop) (h : w_X11_addBar B a0 a1 a2 t Q X) : MetC l yX11_addBar cX11_addBar 3 (some .int) 8 [.ref a0, .int a1, .int a2] (qI Q) X D K E0 B A0 t := by
  unfold w_X11_addBar at h
  refine gc_start (by decide) rfl (Nat.le_of_ble_eq_true rfl) (fun p e s m args below meth c C E => ?_)
  refine gc_iloadn C 1 1 dX11_addBar_0 rfl rfl ?_
  refine gc_iloadn C 2 2 dX11_addBar_1 rfl rfl ?_
  refine gc_callS C (y := yX11_requireMetre) (as := [.int a1, .int a2]) rfl (by decide) (by decide) (c_X11_requireMetre l D K E0 B A0 a1 a2 t _ X h) hk_X11_requireMetre rfl vl_X11_29 kc_X11_requireMetre dX11_addBar_2 (Nat.le_of_ble_eq_true rfl) (fun _ _ h => h) (qkV (fun t1 h lt1 => ?_))
  refine gc_aloadn C 0 0 dX11_addBar_5 rfl rfl ?_
  obtain ⟨g2, h⟩ := h
  obtain ⟨g3, h⟩ := h
  refine gc_getR C BX11 224 0 (by decide) rfl ft_224 vf_X11_10 rfl (isC_of g2 (by decide)) (oG (fR t1 224 a0)) (oG_some g3) dX11_addBar_6 ?_
  obtain ⟨g4, h⟩ := h
  obtain ⟨g5, h⟩ := h
  refine gc_callV C BX9 (y := yX9_barCount) (as := []) rfl (by decide) (by decide) (c_X9_barCount l D K E0 B A0 (oG (fR t1 224 a0)) t1 g5) hk_X9_barCount rfl vl_X11_33 kc_X9_barCount (isC_of g4 (by decide)) dX11_addBar_9 (Nat.le_of_ble_eq_true rfl) (fun _ _ h => h.elim) (qkIP ?_)
  refine gc_bipush C 24 dX11_addBar_12 (by decide) ?_
  refine gc_icmp_lt C 27 dX11_addBar_14 (by decide) (fun c14_1 => ?_) (fun c14_1 => ?_)
  · have h := h.1 c14_1
    refine gc_aloadn C 0 0 dX11_addBar_27 rfl rfl ?_
    refine gc_getR C BX11 224 0 (by decide) rfl ft_224 vf_X11_10 rfl (isC_of g2 (by decide)) (oG (fR t1 224 a0)) (oG_some g3) dX11_addBar_28 ?_
    refine gc_getE C BX9 192 0 (by decide) rfl fe_192 vf_X11_44 rfl g4 dX11_addBar_31 ?_
    obtain ⟨g6, h⟩ := h
    refine gc_new C BX2 hd_X2 vn_X11_48 g6 dX11_addBar_34 (fun hz7 => ?_)
    have h := h hz7
    refine gc_nameS (fun t8 et8 => ?_)
    have h := h t8 et8
    have lt8 : kdLe t1 t8 := by rw [et8]; exact newO_le hz7
    refine gc_dup C dX11_addBar_37 rfl ?_
    refine gc_iloadn C 1 1 dX11_addBar_38 rfl rfl ?_
    refine gc_iloadn C 2 2 dX11_addBar_39 rfl rfl ?_
    refine gc_callI C (y := yX2_init) (as := [.int a1, .int a2]) rfl (by decide) (by decide) (c_X2_init l D K E0 B A0 (szC t1) a1 a2 t8 _ X h) hk_X2_init rfl rfl vl_X11_50 kc_X2_init dX11_addBar_40 (Nat.le_of_ble_eq_true rfl) (fun _ _ h => h) (qkV (fun t9 h lt9 => ?_))
    obtain ⟨g10, h⟩ := h
    obtain ⟨g11, h⟩ := h
    obtain ⟨g12, h⟩ := h
    refine gc_lsAdd C (ci := 12) (k0 := 0) 192 (by decide) (by decide) (by decide) rfl ft_192 rfl (by decide) (ce := 5) (rr := (RX2, TX2, 4)) (by decide +kernel) (by decide) (by decide) rfl n_i1732 (kdLe.k (kdLe.tr lt8 lt9) g4 (by decide) (by decide)) g10 g11 g12 vj_X11_52 dX11_addBar_43 (Nat.le_of_ble_eq_true rfl) (fun sz13 ns13 y13a y13b y13c => ?_)
    have h := h sz13 ns13 y13a y13b y13c
    refine gc_nameS (fun t14 et14 => ?_)
    have h := h t14 et14
    have lt14 : kdLe t9 t14 := kdLe.eq (by rw [et14]; rfl)
    refine gc_pop C dX11_addBar_46 rfl ?_
    refine gc_aloadn C 0 0 dX11_addBar_47 rfl rfl ?_
    obtain ⟨g15, h⟩ := h
    refine gc_getR C BX11 224 0 (by decide) rfl ft_224 vf_X11_10 rfl (isC_of (kdLe.k (kdLe.tr lt8 (kdLe.tr lt9 lt14)) g2 (by decide) (by decide)) (by decide)) (oG (fR t14 224 a0)) (oG_some g15) dX11_addBar_48 ?_
    refine gc_dup C dX11_addBar_51 rfl ?_
    obtain ⟨g16, h⟩ := h
    refine gc_getI C BX9 199 7 (by decide) rfl ft_199 vf_X11_58 rfl (isC_of g16 (by decide)) dX11_addBar_52 ?_
    refine gc_iconst C 1 dX11_addBar_55 (by decide) ?_
    refine gc_iadd C dX11_addBar_56 ?_
    refine gc_putI C BX9 199 7 (by decide) rfl .int ft_199 vf_X11_58 rfl rfl (by decide +kernel) rfl rfl (isC_of g16 (by decide)) dX11_addBar_57 ?_
    refine gc_nameS (fun t17 et17 => ?_)
    have h := h t17 et17
    have lt17 : kdLe t14 t17 := kdLe.eq (by rw [et17]; rfl)
    refine gc_aloadn C 0 0 dX11_addBar_60 rfl rfl ?_
    obtain ⟨g18, h⟩ := h
    refine gc_getR C BX11 224 0 (by decide) rfl ft_224 vf_X11_10 rfl (isC_of (kdLe.k (kdLe.tr lt8 (kdLe.tr lt9 (kdLe.tr lt14 lt17))) g2 (by decide) (by decide)) (by decide)) (oG (fR t17 224 a0)) (oG_some g18) dX11_addBar_61 ?_
    obtain ⟨g19, h⟩ := h
    obtain ⟨g20, h⟩ := h
    refine gc_callV C BX9 (y := yX9_barCount) (as := []) rfl (by decide) (by decide) (c_X9_barCount l D K E0 B A0 (oG (fR t17 224 a0)) t17 g20) hk_X9_barCount rfl vl_X11_33 kc_X9_barCount (isC_of g19 (by decide)) dX11_addBar_64 (Nat.le_of_ble_eq_true rfl) (fun _ _ h => h.elim) (qkIP ?_)
    refine gc_iconst C 1 dX11_addBar_67 (by decide) ?_
    refine gc_isub C dX11_addBar_68 ?_
    exact gc_iret C E (kdLe.tr lt1 (kdLe.tr lt8 (kdLe.tr lt9 (kdLe.tr lt14 lt17)))) dX11_addBar_69 ⟨_, rfl, h⟩
  · have h := h.2 c14_1
    obtain ⟨g21, h⟩ := h
    exact gc_throwS C (text := "there are as many bars as there can be") rfl (by decide) (Nat.le_of_ble_eq_true rfl) ex_X11_37_41 (by decide +kernel) dX11_addBar_17 dX11_addBar_20 dX11_addBar_21 dX11_addBar_23 dX11_addBar_26 g21 h
def w_X11_requireIndex (B : Nat × Nat) (a1 : Int32) (a2 : Int32) (t : CS) (Q : CS → Prop) (X : String → CS → Prop) : Prop := (((a1 < 0) ∨ (¬ (a1 < a2))) → (szC t + 1 ≤ B.1 ∧ nsC t + 6 ≤ B.2) ∧ ∀ sz ns : Nat, X "java/lang/IndexOutOfBoundsException" (rsz t sz ns)) ∧ (¬ ((a1 < 0) ∨ (¬ (a1 < a2))) → Q t)
set_option maxRecDepth 20000 in
set_option maxHeartbeats 2000000 in
theorem c_X11_requireIndex (l : Launch) (D : va_G) (K : Nat → ClassId) (E0 : Nat) (B : Nat × Nat) (A0 : Nat → Prop) (a1 : Int32) (a2 : Int32) (t : CS) (Q : CS → Prop) (X : String → CS → Prop) (h : w_X11_requireIndex B a1 a2 t Q X) : MetC l yX11_requireIndex cX11_requireIndex 2 none 6 [.int a1, .int a2] (qV Q) X D K E0 B A0 t := by
  unfold w_X11_requireIndex at h
  refine gc_start (by decide) rfl (Nat.le_of_ble_eq_true rfl) (fun p e s m args below meth c C E => ?_)
  refine gc_iloadn C 0 0 dX11_requireIndex_0 rfl rfl ?_
  have kt0 : ((a1 < 0) ∨ (¬ (a1 < a2))) → GC p l e (rmC 6 B t) s m args below meth c 2 D K E0 B A0 (gc_Q below D K E0 A0 (qV Q) X args s t (rmC 6 B t)) t 9 [(0, .int a1), (1, .int a2)] [] := by
    intro hc
    have h := h.1 hc
    obtain ⟨g1, h⟩ := h
    exact gc_throwSW C (text := "there is none of this number") rfl (by decide) (Nat.le_of_ble_eq_true rfl) ex_X11_358_362 (by decide +kernel) dX11_requireIndex_9 dX11_requireIndex_12 dX11_requireIndex_13 dX11_requireIndex_16 dX11_requireIndex_19 g1 h
  have kf0 : ¬ ((a1 < 0) ∨ (¬ (a1 < a2))) → GC p l e (rmC 6 B t) s m args below meth c 2 D K E0 B A0 (gc_Q below D K E0 A0 (qV Q) X args s t (rmC 6 B t)) t 20 [(0, .int a1), (1, .int a2)] [] := by
    intro hc
    have h := h.2 hc
    exact gc_vret C E (kdLe.rf _) dX11_requireIndex_20 ⟨rfl, h⟩
  refine gc_if_lt C 9 dX11_requireIndex_1 (by decide) (fun c1_1 => ?_) (fun c1_1 => ?_)
  · exact kt0 (Or.inl c1_1)
  · refine gc_iloadn C 0 0 dX11_requireIndex_4 rfl rfl ?_
    refine gc_iloadn C 1 1 dX11_requireIndex_5 rfl rfl ?_
    refine gc_icmp_lt C 20 dX11_requireIndex_6 (by decide) (fun c6_2 => ?_) (fun c6_2 => ?_)
    · exact kf0 (fun q0 => Or.elim q0 c1_1 (fun q1 => q1 c6_2))
    · exact kt0 (Or.inr c6_2)
def w_X11_requireBar (B : Nat × Nat) (a0 : Nat) (a1 : Int32) (t : CS) (Q : CS → Prop) (X : String → CS → Prop) : Prop := (kdC t a0 = 14) ∧ ((fR t 224 a0) ≠ none) ∧ (kdC t (oG (fR t 224 a0)) = 12) ∧ (d_X9_barCount (oG (fR t 224 a0)) t) ∧ w_X11_requireIndex B a1 (v_X9_barCount (oG (fR t 224 a0)) t) t (fun t5 => Q t5) X
set_option maxRecDepth 20000 in
set_option maxHeartbeats 2000000 in
theorem c_X11_requireBar (l : Launch) (D : va_G) (K : Nat → ClassId) (E0 : Nat) (B : Nat × Nat) (A0 : Nat → Prop) (a0 : Nat) (a1 : Int32) (t : CS) (Q : CS → Prop) (X : String → CS → Prop) (h : w_X11_requireBar B a0 a1 t Q X) : MetC l yX11_requireBar cX11_requireBar 2 none 7 [.ref a0, .int a1] (qV Q) X D K E0 B A0 t := by
  unfold w_X11_requireBar at h
  refine gc_start (by decide) rfl (Nat.le_of_ble_eq_true rfl) (fun p e s m args below meth c C E => ?_)
  refine gc_iloadn C 1 1 dX11_requireBar_0 rfl rfl ?_
  refine gc_aloadn C 0 0 dX11_requireBar_1 rfl rfl ?_
  obtain ⟨g1, h⟩ := h
  obtain ⟨g2, h⟩ := h
  refine gc_getR C BX11 224 0 (by decide) rfl ft_224 vf_X11_10 rfl (isC_of g1 (by decide)) (oG (fR t 224 a0)) (oG_some g2) dX11_requireBar_2 ?_
  obtain ⟨g3, h⟩ := h
  obtain ⟨g4, h⟩ := h
  refine gc_callV C BX9 (y := yX9_barCount) (as := []) rfl (by decide) (by decide) (c_X9_barCount l D K E0 B A0 (oG (fR t 224 a0)) t g4) hk_X9_barCount rfl vl_X11_33 kc_X9_barCount (isC_of g3 (by decide)) dX11_requireBar_5 (Nat.le_of_ble_eq_true rfl) (fun _ _ h => h.elim) (qkIP ?_)
  refine gc_callS C (y := yX11_requireIndex) (as := [.int a1, .int (v_X9_barCount (oG (fR t 224 a0)) t)]) rfl (by decide) (by decide) (c_X11_requireIndex l D K E0 B A0 a1 (v_X9_barCount (oG (fR t 224 a0)) t) t _ X h) hk_X11_requireIndex rfl vl_X11_119 kc_X11_requireIndex dX11_requireBar_8 (Nat.le_of_ble_eq_true rfl) (fun _ _ h => h) (qkV (fun t5 h lt5 => ?_))
  exact gc_vret C E lt5 dX11_requireBar_11 ⟨rfl, h⟩
def v_X9_measure (a0 : Nat) (a1 : Int32) (t : CS) : Nat := (lG t 192 a0 a1)
def d_X9_measure (a0 : Nat) (a1 : Int32) (t : CS) : Prop := (kdC t a0 = 12) ∧ (lIn t 192 a0 a1) ∧ (kdC t (lG t 192 a0 a1) = 5)
set_option maxRecDepth 20000 in
theorem c_X9_measure (l : Launch) (D : va_G) (K : Nat → ClassId) (E0 : Nat) (B : Nat × Nat) (A0 : Nat → Prop) (a0 : Nat) (a1 : Int32) (t : CS) (h : d_X9_measure a0 a1 t) : MetC l yX9_measure cX9_measure 2 (some (.object RX2)) 3 [.ref a0, .int a1] (qR (fun r t' => (v_X9_measure a0 a1 t) = r ∧ t = t')) (fun _ _ => False) D K E0 B A0 t := by
  obtain ⟨u1, u2, u3⟩ := h
  refine gc_start (by decide) rfl (Nat.le_of_ble_eq_true rfl) (fun p e s m args below meth c C E => ?_)
  refine gc_aloadn C 0 0 dX9_measure_0 rfl rfl ?_
  refine gc_getE C BX9 192 0 (by decide) rfl fe_192 vf_X9_12 rfl u1 dX9_measure_1 ?_
  refine gc_iloadn C 1 1 dX9_measure_4 rfl rfl ?_
  refine gc_lsGet C (ci := 12) (k0 := 0) 192 (by decide) (by decide) (by decide) rfl ft_192 rfl (by decide) u1 u2 vj_X9_42 dX9_measure_5 (Nat.le_of_ble_eq_true rfl) ?_
  refine gc_cast C BX2 v_i257 (isC_of u3 (by decide)) dX9_measure_8 ?_
  refine gc_ret0 ?_
  exact gc_aret (v := some (lG t 192 a0 a1)) C E (kdLe.rf _) dX9_measure_11 ⟨_, rfl, (rfl), rfl⟩
def w_X2_mostTicks_L4 (a0 : Nat) (t : CS) (Q : Int32 → CS → Prop) (K4 : (Int32 × Int32) → Prop) (z4 : Int32 × Int32) : Prop := ((4 ≤ z4.2) → Q z4.1 t) ∧ (¬ (4 ≤ z4.2) → (kdC t a0 = 5) ∧ (vp_in z4.2 (cLN 83)) ∧ ((fQ t 83 a0 (Int32.toNatClampNeg z4.2)) ≠ none) ∧ (kdC t (oG (fQ t 83 a0 (Int32.toNatClampNeg z4.2))) = 11) ∧ ∀ x5 : Int32, x5 = (mMax z4.1 (fI t 177 (oG (fQ t 83 a0 (Int32.toNatClampNeg z4.2))))) → K4 (x5, (z4.2 + 1)))
def w_X2_mostTicks (B : Nat × Nat) (a0 : Nat) (t : CS) (Q : Int32 → CS → Prop) (X : String → CS → Prop) : Prop := ∃ n, lp (w_X2_mostTicks_L4 a0 t Q) n (0, 0)
set_option maxRecDepth 20000 in
set_option maxHeartbeats 2000000 in
theorem c_X2_mostTicks (l : Launch) (D : va_G) (K : Nat → ClassId) (E0 : Nat) (B : Nat × Nat) (A0 : Nat → Prop) (a0 : Nat) (t : CS) (Q : Int32 → CS → Prop) (X : String → CS → Prop) (h : w_X2_mostTicks B a0 t Q X) : MetC l yX2_mostTicks cX2_mostTicks 3 (some .int) 1 [.ref a0] (qI Q) X D K E0 B A0 t := by
  unfold w_X2_mostTicks at h
  refine gc_start (by decide) rfl (Nat.le_of_ble_eq_true rfl) (fun p e s m args below meth c C E => ?_)
  refine gc_iconst C 0 dX2_mostTicks_0 (by decide) ?_
  refine gc_istoren C 1 [(1, .int 0), (0, .ref a0)] dX2_mostTicks_1 rfl (by decide) rfl ?_
  refine gc_iconst C 0 dX2_mostTicks_2 (by decide) ?_
  refine gc_istoren C 2 [(2, .int 0), (1, .int 0), (0, .ref a0)] dX2_mostTicks_3 rfl (by decide) rfl ?_
  refine gc_sub [2, 1, 0] rfl ?_
  obtain ⟨n4, h⟩ := h
  have k4 : ∀ (n4 : Nat) (z4 : Int32 × Int32), lp (w_X2_mostTicks_L4 a0 t Q) n4 z4 → GC p l e (rmC 1 B t) s m args below meth c 3 D K E0 B A0 (gc_Q below D K E0 A0 (qI Q) X args s t (rmC 1 B t)) t 4 [(0, .ref a0), (1, .int z4.1), (2, .int z4.2)] [] := by
    intro n4
    induction n4 with
    | zero => intro z4 h; exact h.elim
    | succ n4 ih4 =>
      intro z4 h
      have h : w_X2_mostTicks_L4 a0 t Q (lp (w_X2_mostTicks_L4 a0 t Q) n4) z4 := h
      unfold w_X2_mostTicks_L4 at h
      refine gc_iloadn C 2 2 dX2_mostTicks_4 rfl rfl ?_
      refine gc_iconst C 4 dX2_mostTicks_5 (by decide) ?_
      refine gc_icmp_ge C 29 dX2_mostTicks_6 (by decide) (fun c6_1 => ?_) (fun c6_1 => ?_)
      · have h := h.1 c6_1
        refine gc_iloadn C 1 1 dX2_mostTicks_29 rfl rfl ?_
        exact gc_iret C E (kdLe.rf _) dX2_mostTicks_30 ⟨_, rfl, h⟩
      · have h := h.2 c6_1
        refine gc_iloadn C 1 1 dX2_mostTicks_9 rfl rfl ?_
        refine gc_aloadn C 0 0 dX2_mostTicks_10 rfl rfl ?_
        obtain ⟨g1, h⟩ := h
        refine gc_getE C BX2 83 3 (by decide) rfl fe_83 vf_X2_23 rfl g1 dX2_mostTicks_11 ?_
        refine gc_iloadn C 2 2 dX2_mostTicks_14 rfl rfl ?_
        obtain ⟨g2, h⟩ := h
        refine gc_qald C (ci := 5) (k0 := 3) 83 (by decide) (by decide) (by decide) rfl (CQ := RX8) 4 rfl ft_83 (by decide) g1 g2 dX2_mostTicks_15 ?_
        obtain ⟨g3, h⟩ := h
        refine gc_deref g3 ?_
        obtain ⟨g4, h⟩ := h
        refine gc_getI C BX8 177 1 (by decide) rfl ft_177 vf_X2_32 rfl (isC_of g4 (by decide)) dX2_mostTicks_16 ?_
        refine gc_max C rfl (by decide) vm_X2_35 (Nat.le_of_ble_eq_true rfl) dX2_mostTicks_19 ?_
        refine gc_nameI (fun x5 ex5 => ?_)
        have h := h x5 ex5
        refine gc_istoren C 1 [(1, .int x5), (0, .ref a0), (2, .int z4.2)] dX2_mostTicks_22 rfl (by decide) rfl ?_
        refine gc_iinc C 2 (z4.2 + 1) [(2, .int (z4.2 + 1)), (1, .int x5), (0, .ref a0)] dX2_mostTicks_23 rfl rfl (by decide) rfl ?_
        refine gc_goto C 4 dX2_mostTicks_26 (by decide) ?_
        refine gc_sub [2, 1, 0] rfl ?_
        have h9 := ih4 (x5, (z4.2 + 1)) h
        exact h9
  exact k4 n4 (0, 0) h
def v_X2_ticksOf (a1 : Int32) (a2 : Int32) : Int32 := (if a2 ≤ 0 then 0 else ((96 * a1) / a2))
def d_X2_ticksOf (a1 : Int32) (a2 : Int32) : Prop := ((¬ (a2 ≤ 0)) → ¬ a2 = 0)
set_option maxRecDepth 20000 in
theorem c_X2_ticksOf (l : Launch) (D : va_G) (K : Nat → ClassId) (E0 : Nat) (B : Nat × Nat) (A0 : Nat → Prop) (a1 : Int32) (a2 : Int32) (t : CS) (h : d_X2_ticksOf a1 a2) : MetC l yX2_ticksOf cX2_ticksOf 2 (some .int) 0 [.int a1, .int a2] (qI (fun r t' => (v_X2_ticksOf a1 a2) = r ∧ t = t')) (fun _ _ => False) D K E0 B A0 t := by
  have u1 := h
  refine gc_start (by decide) rfl (Nat.le_of_ble_eq_true rfl) (fun p e s m args below meth c C E => ?_)
  refine gc_iloadn C 1 1 dX2_ticksOf_0 rfl rfl ?_
  refine gc_if_le C 13 dX2_ticksOf_1 (by decide) (fun c1_1 => ?_) (fun c1_1 => ?_)
  · refine gc_iconst C 0 dX2_ticksOf_13 (by decide) ?_
    exact gc_iret C E (kdLe.rf _) dX2_ticksOf_14 ⟨_, rfl, (Eq.symm ((if_pos c1_1).symm)), rfl⟩
  · refine gc_bipush C 96 dX2_ticksOf_4 (by decide) ?_
    refine gc_iloadn C 0 0 dX2_ticksOf_6 rfl rfl ?_
    refine gc_imul C dX2_ticksOf_7 ?_
    refine gc_iloadn C 1 1 dX2_ticksOf_8 rfl rfl ?_
    refine gc_idiv C dX2_ticksOf_9 (u1 c1_1) ?_
    refine gc_goto C 14 dX2_ticksOf_10 (by decide) ?_
    exact gc_iret C E (kdLe.rf _) dX2_ticksOf_14 ⟨_, rfl, (Eq.symm ((if_neg c1_1).symm)), rfl⟩
def v_X2_ticks (a0 : Nat) (t : CS) : Int32 := (v_X2_ticksOf (fI t 80 a0) (fI t 81 a0))
def d_X2_ticks (a0 : Nat) (t : CS) : Prop := (kdC t a0 = 5) ∧ (d_X2_ticksOf (fI t 80 a0) (fI t 81 a0))
set_option maxRecDepth 20000 in
theorem c_X2_ticks (l : Launch) (D : va_G) (K : Nat → ClassId) (E0 : Nat) (B : Nat × Nat) (A0 : Nat → Prop) (a0 : Nat) (t : CS) (h : d_X2_ticks a0 t) : MetC l yX2_ticks cX2_ticks 1 (some .int) 1 [.ref a0] (qI (fun r t' => (v_X2_ticks a0 t) = r ∧ t = t')) (fun _ _ => False) D K E0 B A0 t := by
  obtain ⟨u1, u2⟩ := h
  refine gc_start (by decide) rfl (Nat.le_of_ble_eq_true rfl) (fun p e s m args below meth c C E => ?_)
  refine gc_aloadn C 0 0 dX2_ticks_0 rfl rfl ?_
  refine gc_getI C BX2 80 0 (by decide) rfl ft_80 vf_X2_9 rfl (isC_of u1 (by decide)) dX2_ticks_1 ?_
  refine gc_aloadn C 0 0 dX2_ticks_4 rfl rfl ?_
  refine gc_getI C BX2 81 1 (by decide) rfl ft_81 vf_X2_15 rfl (isC_of u1 (by decide)) dX2_ticks_5 ?_
  refine gc_callS C (y := yX2_ticksOf) (as := [.int (fI t 80 a0), .int (fI t 81 a0)]) rfl (by decide) (by decide) (c_X2_ticksOf l D K E0 B A0 (fI t 80 a0) (fI t 81 a0) t u2) hk_X2_ticksOf rfl vl_X2_28 kc_X2_ticksOf dX2_ticks_8 (Nat.le_of_ble_eq_true rfl) (fun _ _ h => h.elim) (qkIP ?_)
  exact gc_iret C E (kdLe.rf _) dX2_ticks_11 ⟨_, rfl, (rfl), rfl⟩
def w_X11_setMetre (B : Nat × Nat) (a0 : Nat) (a1 : Int32) (a2 : Int32) (a3 : Int32) (t : CS) (Q : Int32 → CS → Prop) (X : String → CS → Prop) : Prop := (kdC t a0 = 14) ∧ w_X11_requireBar B a0 a1 t (fun t2 => w_X11_requireMetre B a2 a3 t2 (fun t3 => ((fR t3 224 a0) ≠ none) ∧ (kdC t3 (oG (fR t3 224 a0)) = 12) ∧ (d_X9_measure (oG (fR t3 224 a0)) a1 t3) ∧ (kdC t3 (v_X9_measure (oG (fR t3 224 a0)) a1 t3) = 5) ∧ w_X2_mostTicks B (v_X9_measure (oG (fR t3 224 a0)) a1 t3) t3 (fun r8 t8 => (d_X2_ticksOf a2 a3) ∧ ((r8 ≤ (v_X2_ticksOf a2 a3)) → (d_X2_ticks (v_X9_measure (oG (fR t3 224 a0)) a1 t3) t8) ∧ ∀ x11 : Int32, x11 = (v_X2_ticks (v_X9_measure (oG (fR t3 224 a0)) a1 t3) t8) → ∀ t12 : CS, t12 = usI t8 80 (v_X9_measure (oG (fR t3 224 a0)) a1 t3) a2 → ∀ t13 : CS, t13 = usI t12 81 (v_X9_measure (oG (fR t3 224 a0)) a1 t3) a3 → ((fR t13 224 a0) ≠ none) ∧ (kdC t13 (oG (fR t13 224 a0)) = 12) ∧ ∀ t16 : CS, t16 = usI t13 199 (oG (fR t13 224 a0)) ((fI t13 199 (oG (fR t13 224 a0))) + 1) → Q x11 t16) ∧ (¬ (r8 ≤ (v_X2_ticksOf a2 a3)) → (szC t8 + 1 ≤ B.1 ∧ nsC t8 + 6 ≤ B.2) ∧ ∀ sz ns : Nat, X "java/lang/IllegalStateException" (rsz t8 sz ns))) X) X) X
set_option maxRecDepth 20000 in
set_option maxHeartbeats 2000000 in
theorem c_X11_setMetre (l : Launch) (D : va_G) (K : Nat → ClassId) (E0 : Nat) (B : Nat × Nat) (A0 : Nat → Prop) (a0 : Nat) (a1 : Int32) (a2 : Int32) (a3 : Int32) (t : CS) (Q : Int32 → CS → Prop) (X : String → CS → Prop) (h : w_X11_setMetre B a0 a1 a2 a3 t Q X) : MetC l yX11_setMetre cX11_setMetre 6 (some .int) 8 [.ref a0, .int a1, .int a2, .int a3] (qI Q) X D K E0 B A0 t := by
  unfold w_X11_setMetre at h
  refine gc_start (by decide) rfl (Nat.le_of_ble_eq_true rfl) (fun p e s m args below meth c C E => ?_)
  refine gc_aloadn C 0 0 dX11_setMetre_0 rfl rfl ?_
  refine gc_iloadn C 1 1 dX11_setMetre_1 rfl rfl ?_
  obtain ⟨g1, h⟩ := h
  refine gc_callV C BX11 (y := yX11_requireBar) (as := [.int a1]) rfl (by decide) (by decide) (c_X11_requireBar l D K E0 B A0 a0 a1 t _ X h) hk_X11_requireBar rfl vl_X11_62 kc_X11_requireBar (isC_of g1 (by decide)) dX11_setMetre_2 (Nat.le_of_ble_eq_true rfl) (fun _ _ h => h) (qkV (fun t2 h lt2 => ?_))
  refine gc_iloadn C 2 2 dX11_setMetre_5 rfl rfl ?_
  refine gc_iloadn C 3 3 dX11_setMetre_6 rfl rfl ?_
  refine gc_callS C (y := yX11_requireMetre) (as := [.int a2, .int a3]) rfl (by decide) (by decide) (c_X11_requireMetre l D K E0 B A0 a2 a3 t2 _ X h) hk_X11_requireMetre rfl vl_X11_29 kc_X11_requireMetre dX11_setMetre_7 (Nat.le_of_ble_eq_true rfl) (fun _ _ h => h) (qkV (fun t3 h lt3 => ?_))
  refine gc_aloadn C 0 0 dX11_setMetre_10 rfl rfl ?_
  obtain ⟨g4, h⟩ := h
  refine gc_getR C BX11 224 0 (by decide) rfl ft_224 vf_X11_10 rfl (isC_of (kdLe.k (kdLe.tr lt2 lt3) g1 (by decide) (by decide)) (by decide)) (oG (fR t3 224 a0)) (oG_some g4) dX11_setMetre_11 ?_
  refine gc_iloadn C 1 1 dX11_setMetre_14 rfl rfl ?_
  obtain ⟨g5, h⟩ := h
  obtain ⟨g6, h⟩ := h
  refine gc_callV C BX9 (y := yX9_measure) (as := [.int a1]) rfl (by decide) (by decide) (c_X9_measure l D K E0 B A0 (oG (fR t3 224 a0)) a1 t3 g6) hk_X9_measure rfl vl_X11_66 kc_X9_measure (isC_of g5 (by decide)) dX11_setMetre_15 (Nat.le_of_ble_eq_true rfl) (fun _ _ h => h.elim) (qkRP ?_)
  refine gc_astore C [(4, .ref (v_X9_measure (oG (fR t3 224 a0)) a1 t3)), (0, .ref a0), (1, .int a1), (2, .int a2), (3, .int a3)] dX11_setMetre_18 (by decide) rfl ?_
  refine gc_aload C 0 dX11_setMetre_20 rfl ?_
  obtain ⟨g7, h⟩ := h
  refine gc_callV C BX2 (y := yX2_mostTicks) (as := []) rfl (by decide) (by decide) (c_X2_mostTicks l D K E0 B A0 (v_X9_measure (oG (fR t3 224 a0)) a1 t3) t3 _ X h) hk_X2_mostTicks rfl vl_X11_70 kc_X2_mostTicks (isC_of g7 (by decide)) dX11_setMetre_22 (Nat.le_of_ble_eq_true rfl) (fun _ _ h => h) (qkI (fun r8 t8 h lt8 => ?_))
  refine gc_iloadn C 3 2 dX11_setMetre_25 rfl rfl ?_
  refine gc_iloadn C 4 3 dX11_setMetre_26 rfl rfl ?_
  obtain ⟨g9, h⟩ := h
  refine gc_callS C (y := yX2_ticksOf) (as := [.int a2, .int a3]) rfl (by decide) (by decide) (c_X2_ticksOf l D K E0 B A0 a2 a3 t8 g9) hk_X2_ticksOf rfl vl_X11_73 kc_X2_ticksOf dX11_setMetre_27 (Nat.le_of_ble_eq_true rfl) (fun _ _ h => h.elim) (qkIP ?_)
  refine gc_icmp_le C 43 dX11_setMetre_30 (by decide) (fun c30_1 => ?_) (fun c30_1 => ?_)
  · have h := h.1 c30_1
    refine gc_aload C 0 dX11_setMetre_43 rfl ?_
    obtain ⟨g10, h⟩ := h
    refine gc_callV C BX2 (y := yX2_ticks) (as := []) rfl (by decide) (by decide) (c_X2_ticks l D K E0 B A0 (v_X9_measure (oG (fR t3 224 a0)) a1 t3) t8 g10) hk_X2_ticks rfl vl_X11_79 kc_X2_ticks (isC_of (kdLe.k lt8 g7 (by decide) (by decide)) (by decide)) dX11_setMetre_45 (Nat.le_of_ble_eq_true rfl) (fun _ _ h => h.elim) (qkIP ?_)
    refine gc_nameI (fun x11 ex11 => ?_)
    have h := h x11 ex11
    refine gc_istore C [(5, .int x11), (4, .ref (v_X9_measure (oG (fR t3 224 a0)) a1 t3)), (0, .ref a0), (1, .int a1), (2, .int a2), (3, .int a3)] dX11_setMetre_48 (by decide) rfl ?_
    refine gc_aload C 1 dX11_setMetre_50 rfl ?_
    refine gc_iloadn C 4 2 dX11_setMetre_52 rfl rfl ?_
    refine gc_putI C BX2 80 0 (by decide) rfl .int ft_80 vf_X11_82 rfl rfl (by decide +kernel) rfl rfl (isC_of (kdLe.k lt8 g7 (by decide) (by decide)) (by decide)) dX11_setMetre_53 ?_
    refine gc_nameS (fun t12 et12 => ?_)
    have h := h t12 et12
    have lt12 : kdLe t8 t12 := kdLe.eq (by rw [et12]; rfl)
    refine gc_aload C 1 dX11_setMetre_56 rfl ?_
    refine gc_iloadn C 5 3 dX11_setMetre_58 rfl rfl ?_
    refine gc_putI C BX2 81 1 (by decide) rfl .int ft_81 vf_X11_85 rfl rfl (by decide +kernel) rfl rfl (isC_of (kdLe.k (kdLe.tr lt8 lt12) g7 (by decide) (by decide)) (by decide)) dX11_setMetre_59 ?_
    refine gc_nameS (fun t13 et13 => ?_)
    have h := h t13 et13
    have lt13 : kdLe t12 t13 := kdLe.eq (by rw [et13]; rfl)
    refine gc_aloadn C 2 0 dX11_setMetre_62 rfl rfl ?_
    obtain ⟨g14, h⟩ := h
    refine gc_getR C BX11 224 0 (by decide) rfl ft_224 vf_X11_10 rfl (isC_of (kdLe.k (kdLe.tr lt2 (kdLe.tr lt3 (kdLe.tr lt8 (kdLe.tr lt12 lt13)))) g1 (by decide) (by decide)) (by decide)) (oG (fR t13 224 a0)) (oG_some g14) dX11_setMetre_63 ?_
    refine gc_dup C dX11_setMetre_66 rfl ?_
    obtain ⟨g15, h⟩ := h
    refine gc_getI C BX9 199 7 (by decide) rfl ft_199 vf_X11_58 rfl (isC_of g15 (by decide)) dX11_setMetre_67 ?_
    refine gc_iconst C 1 dX11_setMetre_70 (by decide) ?_
    refine gc_iadd C dX11_setMetre_71 ?_
    refine gc_putI C BX9 199 7 (by decide) rfl .int ft_199 vf_X11_58 rfl rfl (by decide +kernel) rfl rfl (isC_of g15 (by decide)) dX11_setMetre_72 ?_
    refine gc_nameS (fun t16 et16 => ?_)
    have h := h t16 et16
    have lt16 : kdLe t13 t16 := kdLe.eq (by rw [et16]; rfl)
    refine gc_iload C 0 dX11_setMetre_75 rfl ?_
    exact gc_iret C E (kdLe.tr lt2 (kdLe.tr lt3 (kdLe.tr lt8 (kdLe.tr lt12 (kdLe.tr lt13 lt16))))) dX11_setMetre_77 ⟨_, rfl, h⟩
  · have h := h.2 c30_1
    obtain ⟨g17, h⟩ := h
    exact gc_throwS C (text := "a voice has more ticks in the bar") rfl (by decide) (Nat.le_of_ble_eq_true rfl) ex_X11_37_41 (by decide +kernel) dX11_setMetre_33 dX11_setMetre_36 dX11_setMetre_37 dX11_setMetre_39 dX11_setMetre_42 g17 h
def w_X11_setTempo (B : Nat × Nat) (a0 : Nat) (a1 : Int32) (a2 : Int32) (t : CS) (Q : Int32 → CS → Prop) (X : String → CS → Prop) : Prop := (kdC t a0 = 14) ∧ w_X11_requireBar B a0 a1 t (fun t2 => ∃ J19 : CS → Prop, (∀ t3 : CS, J19 t3 → (((fR t3 224 a0) ≠ none) ∧ (kdC t3 (oG (fR t3 224 a0)) = 12) ∧ (d_X9_measure (oG (fR t3 224 a0)) a1 t3) ∧ (kdC t3 (v_X9_measure (oG (fR t3 224 a0)) a1 t3) = 5) ∧ ∀ x8 : Int32, x8 = (fI t3 82 (v_X9_measure (oG (fR t3 224 a0)) a1 t3)) → ∀ t9 : CS, t9 = usI t3 82 (v_X9_measure (oG (fR t3 224 a0)) a1 t3) a2 → ((fR t9 224 a0) ≠ none) ∧ (kdC t9 (oG (fR t9 224 a0)) = 12) ∧ ∀ t12 : CS, t12 = usI t9 199 (oG (fR t9 224 a0)) ((fI t9 199 (oG (fR t9 224 a0))) + 1) → Q x8 t12)) ∧ (((a2 = (-1)) → J19 t2) ∧ (¬ (a2 = (-1)) → w_X11_requireRange B a2 30 240 t2 (fun t13 => J19 t13) X))) X
set_option maxRecDepth 20000 in
set_option maxHeartbeats 2000000 in
theorem c_X11_setTempo (l : Launch) (D : va_G) (K : Nat → ClassId) (E0 : Nat) (B : Nat × Nat) (A0 : Nat → Prop) (a0 : Nat) (a1 : Int32) (a2 : Int32) (t : CS) (Q : Int32 → CS → Prop) (X : String → CS → Prop) (h : w_X11_setTempo B a0 a1 a2 t Q X) : MetC l yX11_setTempo cX11_setTempo 5 (some .int) 8 [.ref a0, .int a1, .int a2] (qI Q) X D K E0 B A0 t := by
  unfold w_X11_setTempo at h
  refine gc_start (by decide) rfl (Nat.le_of_ble_eq_true rfl) (fun p e s m args below meth c C E => ?_)
  refine gc_aloadn C 0 0 dX11_setTempo_0 rfl rfl ?_
  refine gc_iloadn C 1 1 dX11_setTempo_1 rfl rfl ?_
  obtain ⟨g1, h⟩ := h
  refine gc_callV C BX11 (y := yX11_requireBar) (as := [.int a1]) rfl (by decide) (by decide) (c_X11_requireBar l D K E0 B A0 a0 a1 t _ X h) hk_X11_requireBar rfl vl_X11_62 kc_X11_requireBar (isC_of g1 (by decide)) dX11_setTempo_2 (Nat.le_of_ble_eq_true rfl) (fun _ _ h => h) (qkV (fun t2 h lt2 => ?_))
  refine gc_iloadn C 2 2 dX11_setTempo_5 rfl rfl ?_
  refine gc_iconst C (-1) dX11_setTempo_6 (by decide) ?_
  obtain ⟨J19, hJ19, h⟩ := h
  have k19 : ∀ t3 : CS, kdLe t2 t3 → J19 t3 → GC p l e (rmC 8 B t) s m args below meth c 5 D K E0 B A0 (gc_Q below D K E0 A0 (qI Q) X args s t (rmC 8 B t)) t3 19 [(0, .ref a0), (1, .int a1), (2, .int a2)] [] := by
    intro t3 lt3 h
    have h := hJ19 t3 h
    refine gc_aloadn C 0 0 dX11_setTempo_19 rfl rfl ?_
    obtain ⟨g4, h⟩ := h
    refine gc_getR C BX11 224 0 (by decide) rfl ft_224 vf_X11_10 rfl (isC_of (kdLe.k (kdLe.tr lt2 lt3) g1 (by decide) (by decide)) (by decide)) (oG (fR t3 224 a0)) (oG_some g4) dX11_setTempo_20 ?_
    refine gc_iloadn C 1 1 dX11_setTempo_23 rfl rfl ?_
    obtain ⟨g5, h⟩ := h
    obtain ⟨g6, h⟩ := h
    refine gc_callV C BX9 (y := yX9_measure) (as := [.int a1]) rfl (by decide) (by decide) (c_X9_measure l D K E0 B A0 (oG (fR t3 224 a0)) a1 t3 g6) hk_X9_measure rfl vl_X11_66 kc_X9_measure (isC_of g5 (by decide)) dX11_setTempo_24 (Nat.le_of_ble_eq_true rfl) (fun _ _ h => h.elim) (qkRP ?_)
    refine gc_astoren C 3 [(3, .ref (v_X9_measure (oG (fR t3 224 a0)) a1 t3)), (0, .ref a0), (1, .int a1), (2, .int a2)] dX11_setTempo_27 rfl (by decide) rfl ?_
    refine gc_aloadn C 0 3 dX11_setTempo_28 rfl rfl ?_
    obtain ⟨g7, h⟩ := h
    refine gc_getI C BX2 82 2 (by decide) rfl ft_82 vf_X11_92 rfl (isC_of g7 (by decide)) dX11_setTempo_29 ?_
    refine gc_nameI (fun x8 ex8 => ?_)
    have h := h x8 ex8
    refine gc_istore C [(4, .int x8), (3, .ref (v_X9_measure (oG (fR t3 224 a0)) a1 t3)), (0, .ref a0), (1, .int a1), (2, .int a2)] dX11_setTempo_32 (by decide) rfl ?_
    refine gc_aloadn C 1 3 dX11_setTempo_34 rfl rfl ?_
    refine gc_iloadn C 4 2 dX11_setTempo_35 rfl rfl ?_
    refine gc_putI C BX2 82 2 (by decide) rfl .int ft_82 vf_X11_92 rfl rfl (by decide +kernel) rfl rfl (isC_of g7 (by decide)) dX11_setTempo_36 ?_
    refine gc_nameS (fun t9 et9 => ?_)
    have h := h t9 et9
    have lt9 : kdLe t3 t9 := kdLe.eq (by rw [et9]; rfl)
    refine gc_aloadn C 2 0 dX11_setTempo_39 rfl rfl ?_
    obtain ⟨g10, h⟩ := h
    refine gc_getR C BX11 224 0 (by decide) rfl ft_224 vf_X11_10 rfl (isC_of (kdLe.k (kdLe.tr lt2 (kdLe.tr lt3 lt9)) g1 (by decide) (by decide)) (by decide)) (oG (fR t9 224 a0)) (oG_some g10) dX11_setTempo_40 ?_
    refine gc_dup C dX11_setTempo_43 rfl ?_
    obtain ⟨g11, h⟩ := h
    refine gc_getI C BX9 199 7 (by decide) rfl ft_199 vf_X11_58 rfl (isC_of g11 (by decide)) dX11_setTempo_44 ?_
    refine gc_iconst C 1 dX11_setTempo_47 (by decide) ?_
    refine gc_iadd C dX11_setTempo_48 ?_
    refine gc_putI C BX9 199 7 (by decide) rfl .int ft_199 vf_X11_58 rfl rfl (by decide +kernel) rfl rfl (isC_of g11 (by decide)) dX11_setTempo_49 ?_
    refine gc_nameS (fun t12 et12 => ?_)
    have h := h t12 et12
    have lt12 : kdLe t9 t12 := kdLe.eq (by rw [et12]; rfl)
    refine gc_iload C 0 dX11_setTempo_52 rfl ?_
    exact gc_iret C E (kdLe.tr lt2 (kdLe.tr lt3 (kdLe.tr lt9 lt12))) dX11_setTempo_54 ⟨_, rfl, h⟩
  refine gc_icmp_eq C 19 dX11_setTempo_7 (by decide) (fun c7_1 => ?_) (fun c7_1 => ?_)
  · have h := h.1 c7_1
    exact k19 t2 (kdLe.rf _) h
  · have h := h.2 c7_1
    refine gc_iloadn C 2 2 dX11_setTempo_10 rfl rfl ?_
    refine gc_bipush C 30 dX11_setTempo_11 (by decide) ?_
    refine gc_sipush C 240 dX11_setTempo_13 (by decide) ?_
    refine gc_callS C (y := yX11_requireRange) (as := [.int a2, .int 30, .int 240]) rfl (by decide) (by decide) (c_X11_requireRange l D K E0 B A0 a2 30 240 t2 _ X h) hk_X11_requireRange rfl vl_X11_88 kc_X11_requireRange dX11_setTempo_16 (Nat.le_of_ble_eq_true rfl) (fun _ _ h => h) (qkV (fun t13 h lt13 => ?_))
    exact k19 t13 lt13 h
def v_X11_bars (a0 : Nat) (t : CS) : Int32 := (v_X9_barCount (oG (fR t 224 a0)) t)
def d_X11_bars (a0 : Nat) (t : CS) : Prop := (kdC t a0 = 14) ∧ ((fR t 224 a0) ≠ none) ∧ (kdC t (oG (fR t 224 a0)) = 12) ∧ (d_X9_barCount (oG (fR t 224 a0)) t)
set_option maxRecDepth 20000 in
theorem c_X11_bars (l : Launch) (D : va_G) (K : Nat → ClassId) (E0 : Nat) (B : Nat × Nat) (A0 : Nat → Prop) (a0 : Nat) (t : CS) (h : d_X11_bars a0 t) : MetC l yX11_bars cX11_bars 1 (some .int) 4 [.ref a0] (qI (fun r t' => (v_X11_bars a0 t) = r ∧ t = t')) (fun _ _ => False) D K E0 B A0 t := by
  obtain ⟨u1, u2, u3, u4⟩ := h
  refine gc_start (by decide) rfl (Nat.le_of_ble_eq_true rfl) (fun p e s m args below meth c C E => ?_)
  refine gc_aloadn C 0 0 dX11_bars_0 rfl rfl ?_
  refine gc_getR C BX11 224 0 (by decide) rfl ft_224 vf_X11_10 rfl (isC_of u1 (by decide)) (oG (fR t 224 a0)) (oG_some u2) dX11_bars_1 ?_
  refine gc_callV C BX9 (y := yX9_barCount) (as := []) rfl (by decide) (by decide) (c_X9_barCount l D K E0 B A0 (oG (fR t 224 a0)) t u4) hk_X9_barCount rfl vl_X11_33 kc_X9_barCount (isC_of u3 (by decide)) dX11_bars_4 (Nat.le_of_ble_eq_true rfl) (fun _ _ h => h.elim) (qkIP ?_)
  exact gc_iret C E (kdLe.rf _) dX11_bars_7 ⟨_, rfl, (rfl), rfl⟩
def w_X11_length (B : Nat × Nat) (a0 : Nat) (a1 : Int32) (t : CS) (Q : Int32 → CS → Prop) (X : String → CS → Prop) : Prop := (kdC t a0 = 14) ∧ w_X11_requireBar B a0 a1 t (fun t2 => ((fR t2 224 a0) ≠ none) ∧ (kdC t2 (oG (fR t2 224 a0)) = 12) ∧ (d_X9_measure (oG (fR t2 224 a0)) a1 t2) ∧ (kdC t2 (v_X9_measure (oG (fR t2 224 a0)) a1 t2) = 5) ∧ (d_X2_ticks (v_X9_measure (oG (fR t2 224 a0)) a1 t2) t2) ∧ Q (v_X2_ticks (v_X9_measure (oG (fR t2 224 a0)) a1 t2) t2) t2) X
set_option maxRecDepth 20000 in
set_option maxHeartbeats 2000000 in
theorem c_X11_length (l : Launch) (D : va_G) (K : Nat → ClassId) (E0 : Nat) (B : Nat × Nat) (A0 : Nat → Prop) (a0 : Nat) (a1 : Int32) (t : CS) (Q : Int32 → CS → Prop) (X : String → CS → Prop) (h : w_X11_length B a0 a1 t Q X) : MetC l yX11_length cX11_length 2 (some .int) 8 [.ref a0, .int a1] (qI Q) X D K E0 B A0 t := by
  unfold w_X11_length at h
  refine gc_start (by decide) rfl (Nat.le_of_ble_eq_true rfl) (fun p e s m args below meth c C E => ?_)
  refine gc_aloadn C 0 0 dX11_length_0 rfl rfl ?_
  refine gc_iloadn C 1 1 dX11_length_1 rfl rfl ?_
  obtain ⟨g1, h⟩ := h
  refine gc_callV C BX11 (y := yX11_requireBar) (as := [.int a1]) rfl (by decide) (by decide) (c_X11_requireBar l D K E0 B A0 a0 a1 t _ X h) hk_X11_requireBar rfl vl_X11_62 kc_X11_requireBar (isC_of g1 (by decide)) dX11_length_2 (Nat.le_of_ble_eq_true rfl) (fun _ _ h => h) (qkV (fun t2 h lt2 => ?_))
  refine gc_aloadn C 0 0 dX11_length_5 rfl rfl ?_
  obtain ⟨g3, h⟩ := h
  refine gc_getR C BX11 224 0 (by decide) rfl ft_224 vf_X11_10 rfl (isC_of (kdLe.k lt2 g1 (by decide) (by decide)) (by decide)) (oG (fR t2 224 a0)) (oG_some g3) dX11_length_6 ?_
  refine gc_iloadn C 1 1 dX11_length_9 rfl rfl ?_
  obtain ⟨g4, h⟩ := h
  obtain ⟨g5, h⟩ := h
  refine gc_callV C BX9 (y := yX9_measure) (as := [.int a1]) rfl (by decide) (by decide) (c_X9_measure l D K E0 B A0 (oG (fR t2 224 a0)) a1 t2 g5) hk_X9_measure rfl vl_X11_66 kc_X9_measure (isC_of g4 (by decide)) dX11_length_10 (Nat.le_of_ble_eq_true rfl) (fun _ _ h => h.elim) (qkRP ?_)
  obtain ⟨g6, h⟩ := h
  obtain ⟨g7, h⟩ := h
  refine gc_callV C BX2 (y := yX2_ticks) (as := []) rfl (by decide) (by decide) (c_X2_ticks l D K E0 B A0 (v_X9_measure (oG (fR t2 224 a0)) a1 t2) t2 g7) hk_X2_ticks rfl vl_X11_79 kc_X2_ticks (isC_of g6 (by decide)) dX11_length_13 (Nat.le_of_ble_eq_true rfl) (fun _ _ h => h.elim) (qkIP ?_)
  exact gc_iret C E lt2 dX11_length_16 ⟨_, rfl, h⟩
def w_X9_tempoAt_L2 (a0 : Nat) (t : CS) (Q : Int32 → CS → Prop) (K2 : Int32 → Prop) (z2 : Int32) : Prop := ((z2 < 0) → Q 120 t) ∧ (¬ (z2 < 0) → (kdC t a0 = 12) ∧ (lIn t 192 a0 z2) ∧ (kdC t (lG t 192 a0 z2) = 5) ∧ ∀ x4 : Int32, x4 = (fI t 82 (lG t 192 a0 z2)) → ((x4 = (-1)) → K2 (z2 + (-1))) ∧ (¬ (x4 = (-1)) → Q x4 t))
def w_X9_tempoAt (B : Nat × Nat) (a0 : Nat) (a1 : Int32) (t : CS) (Q : Int32 → CS → Prop) (X : String → CS → Prop) : Prop := ∃ n, lp (w_X9_tempoAt_L2 a0 t Q) n a1
set_option maxRecDepth 20000 in
set_option maxHeartbeats 2000000 in
theorem c_X9_tempoAt (l : Launch) (D : va_G) (K : Nat → ClassId) (E0 : Nat) (B : Nat × Nat) (A0 : Nat → Prop) (a0 : Nat) (a1 : Int32) (t : CS) (Q : Int32 → CS → Prop) (X : String → CS → Prop) (h : w_X9_tempoAt B a0 a1 t Q X) : MetC l yX9_tempoAt cX9_tempoAt 4 (some .int) 3 [.ref a0, .int a1] (qI Q) X D K E0 B A0 t := by
  unfold w_X9_tempoAt at h
  refine gc_start (by decide) rfl (Nat.le_of_ble_eq_true rfl) (fun p e s m args below meth c C E => ?_)
  refine gc_iloadn C 1 1 dX9_tempoAt_0 rfl rfl ?_
  refine gc_istoren C 2 [(2, .int a1), (0, .ref a0), (1, .int a1)] dX9_tempoAt_1 rfl (by decide) rfl ?_
  refine gc_sub [1, 0] rfl ?_
  obtain ⟨n2, h⟩ := h
  have k2 : ∀ (n2 : Nat) (z2 : Int32), lp (w_X9_tempoAt_L2 a0 t Q) n2 z2 → GC p l e (rmC 3 B t) s m args below meth c 4 D K E0 B A0 (gc_Q below D K E0 A0 (qI Q) X args s t (rmC 3 B t)) t 2 [(0, .ref a0), (2, .int z2)] [] := by
    intro n2
    induction n2 with
    | zero => intro z2 h; exact h.elim
    | succ n2 ih2 =>
      intro z2 h
      have h : w_X9_tempoAt_L2 a0 t Q (lp (w_X9_tempoAt_L2 a0 t Q) n2) z2 := h
      unfold w_X9_tempoAt_L2 at h
      refine gc_iloadn C 1 2 dX9_tempoAt_2 rfl rfl ?_
      refine gc_if_lt C 34 dX9_tempoAt_3 (by decide) (fun c3_1 => ?_) (fun c3_1 => ?_)
      · have h := h.1 c3_1
        refine gc_bipush C 120 dX9_tempoAt_34 (by decide) ?_
        exact gc_iret C E (kdLe.rf _) dX9_tempoAt_36 ⟨_, rfl, h⟩
      · have h := h.2 c3_1
        refine gc_aloadn C 0 0 dX9_tempoAt_6 rfl rfl ?_
        obtain ⟨g1, h⟩ := h
        refine gc_getE C BX9 192 0 (by decide) rfl fe_192 vf_X9_12 rfl g1 dX9_tempoAt_7 ?_
        refine gc_iloadn C 1 2 dX9_tempoAt_10 rfl rfl ?_
        obtain ⟨g2, h⟩ := h
        refine gc_lsGet C (ci := 12) (k0 := 0) 192 (by decide) (by decide) (by decide) rfl ft_192 rfl (by decide) g1 g2 vj_X9_42 dX9_tempoAt_11 (Nat.le_of_ble_eq_true rfl) ?_
        obtain ⟨g3, h⟩ := h
        refine gc_cast C BX2 v_i257 (isC_of g3 (by decide)) dX9_tempoAt_14 ?_
        refine gc_getI C BX2 82 2 (by decide) rfl ft_82 vf_X9_52 rfl (isC_of g3 (by decide)) dX9_tempoAt_17 ?_
        refine gc_nameI (fun x4 ex4 => ?_)
        have h := h x4 ex4
        refine gc_istoren C 3 [(3, .int x4), (0, .ref a0), (2, .int z2)] dX9_tempoAt_20 rfl (by decide) rfl ?_
        refine gc_iloadn C 0 3 dX9_tempoAt_21 rfl rfl ?_
        refine gc_iconst C (-1) dX9_tempoAt_22 (by decide) ?_
        refine gc_icmp_eq C 28 dX9_tempoAt_23 (by decide) (fun c23_2 => ?_) (fun c23_2 => ?_)
        · have h := h.1 c23_2
          refine gc_iinc C 2 (z2 + (-1)) [(2, .int (z2 + (-1))), (3, .int x4), (0, .ref a0)] dX9_tempoAt_28 rfl rfl (by decide) rfl ?_
          refine gc_goto C 2 dX9_tempoAt_31 (by decide) ?_
          refine gc_sub [2, 0] rfl ?_
          have h9 := ih2 (z2 + (-1)) h
          exact h9
        · have h := h.2 c23_2
          refine gc_iloadn C 0 3 dX9_tempoAt_26 rfl rfl ?_
          exact gc_iret C E (kdLe.rf _) dX9_tempoAt_27 ⟨_, rfl, h⟩
  exact k2 n2 a1 h
def w_X11_tempo (B : Nat × Nat) (a0 : Nat) (a1 : Int32) (t : CS) (Q : Int32 → CS → Prop) (X : String → CS → Prop) : Prop := (kdC t a0 = 14) ∧ w_X11_requireBar B a0 a1 t (fun t2 => ((fR t2 224 a0) ≠ none) ∧ (kdC t2 (oG (fR t2 224 a0)) = 12) ∧ w_X9_tempoAt B (oG (fR t2 224 a0)) a1 t2 (fun r5 t5 => Q r5 t5) X) X
set_option maxRecDepth 20000 in
set_option maxHeartbeats 2000000 in
theorem c_X11_tempo (l : Launch) (D : va_G) (K : Nat → ClassId) (E0 : Nat) (B : Nat × Nat) (A0 : Nat → Prop) (a0 : Nat) (a1 : Int32) (t : CS) (Q : Int32 → CS → Prop) (X : String → CS → Prop) (h : w_X11_tempo B a0 a1 t Q X) : MetC l yX11_tempo cX11_tempo 2 (some .int) 8 [.ref a0, .int a1] (qI Q) X D K E0 B A0 t := by
  unfold w_X11_tempo at h
  refine gc_start (by decide) rfl (Nat.le_of_ble_eq_true rfl) (fun p e s m args below meth c C E => ?_)
  refine gc_aloadn C 0 0 dX11_tempo_0 rfl rfl ?_
  refine gc_iloadn C 1 1 dX11_tempo_1 rfl rfl ?_
  obtain ⟨g1, h⟩ := h
  refine gc_callV C BX11 (y := yX11_requireBar) (as := [.int a1]) rfl (by decide) (by decide) (c_X11_requireBar l D K E0 B A0 a0 a1 t _ X h) hk_X11_requireBar rfl vl_X11_62 kc_X11_requireBar (isC_of g1 (by decide)) dX11_tempo_2 (Nat.le_of_ble_eq_true rfl) (fun _ _ h => h) (qkV (fun t2 h lt2 => ?_))
  refine gc_aloadn C 0 0 dX11_tempo_5 rfl rfl ?_
  obtain ⟨g3, h⟩ := h
  refine gc_getR C BX11 224 0 (by decide) rfl ft_224 vf_X11_10 rfl (isC_of (kdLe.k lt2 g1 (by decide) (by decide)) (by decide)) (oG (fR t2 224 a0)) (oG_some g3) dX11_tempo_6 ?_
  refine gc_iloadn C 1 1 dX11_tempo_9 rfl rfl ?_
  obtain ⟨g4, h⟩ := h
  refine gc_callV C BX9 (y := yX9_tempoAt) (as := [.int a1]) rfl (by decide) (by decide) (c_X9_tempoAt l D K E0 B A0 (oG (fR t2 224 a0)) a1 t2 _ X h) hk_X9_tempoAt rfl vl_X11_95 kc_X9_tempoAt (isC_of g4 (by decide)) dX11_tempo_10 (Nat.le_of_ble_eq_true rfl) (fun _ _ h => h) (qkI (fun r5 t5 h lt5 => ?_))
  exact gc_iret C E (kdLe.tr lt2 lt5) dX11_tempo_13 ⟨_, rfl, h⟩
def v_X9_timeOf (a1 : Int32) (a2 : Int32) : Int32 := (if a2 ≤ 0 then 0 else ((a1 * 2500) / a2))
def d_X9_timeOf (a1 : Int32) (a2 : Int32) : Prop := ((¬ (a2 ≤ 0)) → ¬ a2 = 0)
set_option maxRecDepth 20000 in
theorem c_X9_timeOf (l : Launch) (D : va_G) (K : Nat → ClassId) (E0 : Nat) (B : Nat × Nat) (A0 : Nat → Prop) (a1 : Int32) (a2 : Int32) (t : CS) (h : d_X9_timeOf a1 a2) : MetC l yX9_timeOf cX9_timeOf 2 (some .int) 0 [.int a1, .int a2] (qI (fun r t' => (v_X9_timeOf a1 a2) = r ∧ t = t')) (fun _ _ => False) D K E0 B A0 t := by
  have u1 := h
  refine gc_start (by decide) rfl (Nat.le_of_ble_eq_true rfl) (fun p e s m args below meth c C E => ?_)
  refine gc_iloadn C 1 1 dX9_timeOf_0 rfl rfl ?_
  refine gc_if_le C 14 dX9_timeOf_1 (by decide) (fun c1_1 => ?_) (fun c1_1 => ?_)
  · refine gc_iconst C 0 dX9_timeOf_14 (by decide) ?_
    exact gc_iret C E (kdLe.rf _) dX9_timeOf_15 ⟨_, rfl, (Eq.symm ((if_pos c1_1).symm)), rfl⟩
  · refine gc_iloadn C 0 0 dX9_timeOf_4 rfl rfl ?_
    refine gc_sipush C 2500 dX9_timeOf_5 (by decide) ?_
    refine gc_imul C dX9_timeOf_8 ?_
    refine gc_iloadn C 1 1 dX9_timeOf_9 rfl rfl ?_
    refine gc_idiv C dX9_timeOf_10 (u1 c1_1) ?_
    refine gc_goto C 15 dX9_timeOf_11 (by decide) ?_
    exact gc_iret C E (kdLe.rf _) dX9_timeOf_15 ⟨_, rfl, (Eq.symm ((if_neg c1_1).symm)), rfl⟩
def w_X9_timeOfBar (B : Nat × Nat) (a0 : Nat) (a1 : Int32) (t : CS) (Q : Int32 → CS → Prop) (X : String → CS → Prop) : Prop := (kdC t a0 = 12) ∧ (lIn t 192 a0 a1) ∧ (kdC t (lG t 192 a0 a1) = 5) ∧ (d_X2_ticks (lG t 192 a0 a1) t) ∧ w_X9_tempoAt B a0 a1 t (fun r5 t5 => (d_X9_timeOf (v_X2_ticks (lG t 192 a0 a1) t) r5) ∧ Q (v_X9_timeOf (v_X2_ticks (lG t 192 a0 a1) t) r5) t5) X
set_option maxRecDepth 20000 in
set_option maxHeartbeats 2000000 in
theorem c_X9_timeOfBar (l : Launch) (D : va_G) (K : Nat → ClassId) (E0 : Nat) (B : Nat × Nat) (A0 : Nat → Prop) (a0 : Nat) (a1 : Int32) (t : CS) (Q : Int32 → CS → Prop) (X : String → CS → Prop) (h : w_X9_timeOfBar B a0 a1 t Q X) : MetC l yX9_timeOfBar cX9_timeOfBar 2 (some .int) 4 [.ref a0, .int a1] (qI Q) X D K E0 B A0 t := by
  unfold w_X9_timeOfBar at h
  refine gc_start (by decide) rfl (Nat.le_of_ble_eq_true rfl) (fun p e s m args below meth c C E => ?_)
  refine gc_aloadn C 0 0 dX9_timeOfBar_0 rfl rfl ?_
  obtain ⟨g1, h⟩ := h
  refine gc_getE C BX9 192 0 (by decide) rfl fe_192 vf_X9_12 rfl g1 dX9_timeOfBar_1 ?_
  refine gc_iloadn C 1 1 dX9_timeOfBar_4 rfl rfl ?_
  obtain ⟨g2, h⟩ := h
  refine gc_lsGet C (ci := 12) (k0 := 0) 192 (by decide) (by decide) (by decide) rfl ft_192 rfl (by decide) g1 g2 vj_X9_42 dX9_timeOfBar_5 (Nat.le_of_ble_eq_true rfl) ?_
  obtain ⟨g3, h⟩ := h
  refine gc_cast C BX2 v_i257 (isC_of g3 (by decide)) dX9_timeOfBar_8 ?_
  obtain ⟨g4, h⟩ := h
  refine gc_callV C BX2 (y := yX2_ticks) (as := []) rfl (by decide) (by decide) (c_X2_ticks l D K E0 B A0 (lG t 192 a0 a1) t g4) hk_X2_ticks rfl vl_X9_55 kc_X2_ticks (isC_of g3 (by decide)) dX9_timeOfBar_11 (Nat.le_of_ble_eq_true rfl) (fun _ _ h => h.elim) (qkIP ?_)
  refine gc_aloadn C 0 0 dX9_timeOfBar_14 rfl rfl ?_
  refine gc_iloadn C 1 1 dX9_timeOfBar_15 rfl rfl ?_
  refine gc_callV C BX9 (y := yX9_tempoAt) (as := [.int a1]) rfl (by decide) (by decide) (c_X9_tempoAt l D K E0 B A0 a0 a1 t _ X h) hk_X9_tempoAt rfl vl_X9_58 kc_X9_tempoAt (isC_of g1 (by decide)) dX9_timeOfBar_16 (Nat.le_of_ble_eq_true rfl) (fun _ _ h => h) (qkI (fun r5 t5 h lt5 => ?_))
  obtain ⟨g6, h⟩ := h
  refine gc_callS C (y := yX9_timeOf) (as := [.int (v_X2_ticks (lG t 192 a0 a1) t), .int r5]) rfl (by decide) (by decide) (c_X9_timeOf l D K E0 B A0 (v_X2_ticks (lG t 192 a0 a1) t) r5 t5 g6) hk_X9_timeOf rfl vl_X9_62 kc_X9_timeOf dX9_timeOfBar_19 (Nat.le_of_ble_eq_true rfl) (fun _ _ h => h.elim) (qkIP ?_)
  exact gc_iret C E lt5 dX9_timeOfBar_22 ⟨_, rfl, h⟩
def w_X11_time (B : Nat × Nat) (a0 : Nat) (a1 : Int32) (t : CS) (Q : Int32 → CS → Prop) (X : String → CS → Prop) : Prop := (kdC t a0 = 14) ∧ w_X11_requireBar B a0 a1 t (fun t2 => ((fR t2 224 a0) ≠ none) ∧ (kdC t2 (oG (fR t2 224 a0)) = 12) ∧ w_X9_timeOfBar B (oG (fR t2 224 a0)) a1 t2 (fun r5 t5 => Q r5 t5) X) X
set_option maxRecDepth 20000 in
set_option maxHeartbeats 2000000 in
theorem c_X11_time (l : Launch) (D : va_G) (K : Nat → ClassId) (E0 : Nat) (B : Nat × Nat) (A0 : Nat → Prop) (a0 : Nat) (a1 : Int32) (t : CS) (Q : Int32 → CS → Prop) (X : String → CS → Prop) (h : w_X11_time B a0 a1 t Q X) : MetC l yX11_time cX11_time 2 (some .int) 8 [.ref a0, .int a1] (qI Q) X D K E0 B A0 t := by
  unfold w_X11_time at h
  refine gc_start (by decide) rfl (Nat.le_of_ble_eq_true rfl) (fun p e s m args below meth c C E => ?_)
  refine gc_aloadn C 0 0 dX11_time_0 rfl rfl ?_
  refine gc_iloadn C 1 1 dX11_time_1 rfl rfl ?_
  obtain ⟨g1, h⟩ := h
  refine gc_callV C BX11 (y := yX11_requireBar) (as := [.int a1]) rfl (by decide) (by decide) (c_X11_requireBar l D K E0 B A0 a0 a1 t _ X h) hk_X11_requireBar rfl vl_X11_62 kc_X11_requireBar (isC_of g1 (by decide)) dX11_time_2 (Nat.le_of_ble_eq_true rfl) (fun _ _ h => h) (qkV (fun t2 h lt2 => ?_))
  refine gc_aloadn C 0 0 dX11_time_5 rfl rfl ?_
  obtain ⟨g3, h⟩ := h
  refine gc_getR C BX11 224 0 (by decide) rfl ft_224 vf_X11_10 rfl (isC_of (kdLe.k lt2 g1 (by decide) (by decide)) (by decide)) (oG (fR t2 224 a0)) (oG_some g3) dX11_time_6 ?_
  refine gc_iloadn C 1 1 dX11_time_9 rfl rfl ?_
  obtain ⟨g4, h⟩ := h
  refine gc_callV C BX9 (y := yX9_timeOfBar) (as := [.int a1]) rfl (by decide) (by decide) (c_X9_timeOfBar l D K E0 B A0 (oG (fR t2 224 a0)) a1 t2 _ X h) hk_X9_timeOfBar rfl vl_X11_99 kc_X9_timeOfBar (isC_of g4 (by decide)) dX11_time_10 (Nat.le_of_ble_eq_true rfl) (fun _ _ h => h) (qkI (fun r5 t5 h lt5 => ?_))
  exact gc_iret C E (kdLe.tr lt2 lt5) dX11_time_13 ⟨_, rfl, h⟩
def w_X11_requireVoice (B : Nat × Nat) (a1 : Int32) (t : CS) (Q : CS → Prop) (X : String → CS → Prop) : Prop := w_X11_requireRange B a1 0 3 t (fun t1 => Q t1) X
set_option maxRecDepth 20000 in
set_option maxHeartbeats 2000000 in
theorem c_X11_requireVoice (l : Launch) (D : va_G) (K : Nat → ClassId) (E0 : Nat) (B : Nat × Nat) (A0 : Nat → Prop) (a1 : Int32) (t : CS) (Q : CS → Prop) (X : String → CS → Prop) (h : w_X11_requireVoice B a1 t Q X) : MetC l yX11_requireVoice cX11_requireVoice 1 none 7 [.int a1] (qV Q) X D K E0 B A0 t := by
  unfold w_X11_requireVoice at h
  refine gc_start (by decide) rfl (Nat.le_of_ble_eq_true rfl) (fun p e s m args below meth c C E => ?_)
  refine gc_iloadn C 0 0 dX11_requireVoice_0 rfl rfl ?_
  refine gc_iconst C 0 dX11_requireVoice_1 (by decide) ?_
  refine gc_iconst C 3 dX11_requireVoice_2 (by decide) ?_
  refine gc_callS C (y := yX11_requireRange) (as := [.int a1, .int 0, .int 3]) rfl (by decide) (by decide) (c_X11_requireRange l D K E0 B A0 a1 0 3 t _ X h) hk_X11_requireRange rfl vl_X11_88 kc_X11_requireRange dX11_requireVoice_3 (Nat.le_of_ble_eq_true rfl) (fun _ _ h => h) (qkV (fun t1 h lt1 => ?_))
  exact gc_vret C E lt1 dX11_requireVoice_6 ⟨rfl, h⟩
def v_X9_row (a0 : Nat) (a1 : Int32) (a2 : Int32) (t : CS) : Nat := (oG (fQ t 83 (lG t 192 a0 a2) (Int32.toNatClampNeg a1)))
def d_X9_row (a0 : Nat) (a1 : Int32) (a2 : Int32) (t : CS) : Prop := (kdC t a0 = 12) ∧ (lIn t 192 a0 a2) ∧ (kdC t (lG t 192 a0 a2) = 5) ∧ (vp_in a1 (cLN 83)) ∧ ((fQ t 83 (lG t 192 a0 a2) (Int32.toNatClampNeg a1)) ≠ none)
set_option maxRecDepth 20000 in
theorem c_X9_row (l : Launch) (D : va_G) (K : Nat → ClassId) (E0 : Nat) (B : Nat × Nat) (A0 : Nat → Prop) (a0 : Nat) (a1 : Int32) (a2 : Int32) (t : CS) (h : d_X9_row a0 a1 a2 t) : MetC l yX9_row cX9_row 3 (some (.object RX8)) 3 [.ref a0, .int a1, .int a2] (qR (fun r t' => (v_X9_row a0 a1 a2 t) = r ∧ t = t')) (fun _ _ => False) D K E0 B A0 t := by
  obtain ⟨u1, u2, u3, u4, u5⟩ := h
  refine gc_start (by decide) rfl (Nat.le_of_ble_eq_true rfl) (fun p e s m args below meth c C E => ?_)
  refine gc_aloadn C 0 0 dX9_row_0 rfl rfl ?_
  refine gc_getE C BX9 192 0 (by decide) rfl fe_192 vf_X9_12 rfl u1 dX9_row_1 ?_
  refine gc_iloadn C 2 2 dX9_row_4 rfl rfl ?_
  refine gc_lsGet C (ci := 12) (k0 := 0) 192 (by decide) (by decide) (by decide) rfl ft_192 rfl (by decide) u1 u2 vj_X9_42 dX9_row_5 (Nat.le_of_ble_eq_true rfl) ?_
  refine gc_cast C BX2 v_i257 (isC_of u3 (by decide)) dX9_row_8 ?_
  refine gc_getE C BX2 83 3 (by decide) rfl fe_83 vf_X9_48 rfl u3 dX9_row_11 ?_
  refine gc_iloadn C 1 1 dX9_row_14 rfl rfl ?_
  refine gc_qald C (ci := 5) (k0 := 3) 83 (by decide) (by decide) (by decide) rfl (CQ := RX8) 4 rfl ft_83 (by decide) u3 u4 dX9_row_15 ?_
  refine gc_deref u5 ?_
  refine gc_ret0 ?_
  exact gc_aret (v := some (oG (fQ t 83 (lG t 192 a0 a2) (Int32.toNatClampNeg a1)))) C E (kdLe.rf _) dX9_row_16 ⟨_, rfl, (rfl), rfl⟩
def v_X8_size (a0 : Nat) (t : CS) : Int32 := (nI (fL t 176 a0).length)
def d_X8_size (a0 : Nat) (t : CS) : Prop := (kdC t a0 = 11)
set_option maxRecDepth 20000 in
theorem c_X8_size (l : Launch) (D : va_G) (K : Nat → ClassId) (E0 : Nat) (B : Nat × Nat) (A0 : Nat → Prop) (a0 : Nat) (t : CS) (h : d_X8_size a0 t) : MetC l yX8_size cX8_size 1 (some .int) 3 [.ref a0] (qI (fun r t' => (v_X8_size a0 t) = r ∧ t = t')) (fun _ _ => False) D K E0 B A0 t := by
  have u1 := h
  refine gc_start (by decide) rfl (Nat.le_of_ble_eq_true rfl) (fun p e s m args below meth c C E => ?_)
  refine gc_aloadn C 0 0 dX8_size_0 rfl rfl ?_
  refine gc_getE C BX8 176 0 (by decide) rfl fe_176 vf_X8_12 rfl u1 dX8_size_1 ?_
  refine gc_lsSize C (ci := 11) (k0 := 0) 176 (by decide) (by decide) (by decide) rfl ft_176 rfl (by decide) u1 vj_X8_18 dX8_size_4 (Nat.le_of_ble_eq_true rfl) ?_
  exact gc_iret C E (kdLe.rf _) dX8_size_7 ⟨_, rfl, (rfl), rfl⟩
def v_X9_ticksLeft (a0 : Nat) (a1 : Int32) (a2 : Int32) (t : CS) : Int32 := ((v_X2_ticks (lG t 192 a0 a2) t) - (fI t 177 (v_X9_row a0 a1 a2 t)))
def d_X9_ticksLeft (a0 : Nat) (a1 : Int32) (a2 : Int32) (t : CS) : Prop := (kdC t a0 = 12) ∧ (lIn t 192 a0 a2) ∧ (kdC t (lG t 192 a0 a2) = 5) ∧ (d_X2_ticks (lG t 192 a0 a2) t) ∧ (d_X9_row a0 a1 a2 t) ∧ (kdC t (v_X9_row a0 a1 a2 t) = 11)
set_option maxRecDepth 20000 in
theorem c_X9_ticksLeft (l : Launch) (D : va_G) (K : Nat → ClassId) (E0 : Nat) (B : Nat × Nat) (A0 : Nat → Prop) (a0 : Nat) (a1 : Int32) (a2 : Int32) (t : CS) (h : d_X9_ticksLeft a0 a1 a2 t) : MetC l yX9_ticksLeft cX9_ticksLeft 3 (some .int) 4 [.ref a0, .int a1, .int a2] (qI (fun r t' => (v_X9_ticksLeft a0 a1 a2 t) = r ∧ t = t')) (fun _ _ => False) D K E0 B A0 t := by
  obtain ⟨u1, u2, u3, u4, u5, u6⟩ := h
  refine gc_start (by decide) rfl (Nat.le_of_ble_eq_true rfl) (fun p e s m args below meth c C E => ?_)
  refine gc_aloadn C 0 0 dX9_ticksLeft_0 rfl rfl ?_
  refine gc_getE C BX9 192 0 (by decide) rfl fe_192 vf_X9_12 rfl u1 dX9_ticksLeft_1 ?_
  refine gc_iloadn C 2 2 dX9_ticksLeft_4 rfl rfl ?_
  refine gc_lsGet C (ci := 12) (k0 := 0) 192 (by decide) (by decide) (by decide) rfl ft_192 rfl (by decide) u1 u2 vj_X9_42 dX9_ticksLeft_5 (Nat.le_of_ble_eq_true rfl) ?_
  refine gc_cast C BX2 v_i257 (isC_of u3 (by decide)) dX9_ticksLeft_8 ?_
  refine gc_callV C BX2 (y := yX2_ticks) (as := []) rfl (by decide) (by decide) (c_X2_ticks l D K E0 B A0 (lG t 192 a0 a2) t u4) hk_X2_ticks rfl vl_X9_55 kc_X2_ticks (isC_of u3 (by decide)) dX9_ticksLeft_11 (Nat.le_of_ble_eq_true rfl) (fun _ _ h => h.elim) (qkIP ?_)
  refine gc_aloadn C 0 0 dX9_ticksLeft_14 rfl rfl ?_
  refine gc_iloadn C 1 1 dX9_ticksLeft_15 rfl rfl ?_
  refine gc_iloadn C 2 2 dX9_ticksLeft_16 rfl rfl ?_
  refine gc_callV C BX9 (y := yX9_row) (as := [.int a1, .int a2]) rfl (by decide) (by decide) (c_X9_row l D K E0 B A0 a0 a1 a2 t u5) hk_X9_row rfl vl_X9_66 kc_X9_row (isC_of u1 (by decide)) dX9_ticksLeft_17 (Nat.le_of_ble_eq_true rfl) (fun _ _ h => h.elim) (qkRP ?_)
  refine gc_getI C BX8 177 1 (by decide) rfl ft_177 vf_X9_70 rfl (isC_of u6 (by decide)) dX9_ticksLeft_20 ?_
  refine gc_isub C dX9_ticksLeft_23 ?_
  exact gc_iret C E (kdLe.rf _) dX9_ticksLeft_24 ⟨_, rfl, (rfl), rfl⟩
def v_X0_ticksOf (a1 : Int32) (a2 : Int32) : Int32 := (if a1 < 0 then 0 else (if a1 < 6 then (if a2 = 1 then (((cTick (Int32.toNatClampNeg a1)) * 3) / 2) else (if a2 = 2 then (((cTick (Int32.toNatClampNeg a1)) * 2) / 3) else (cTick (Int32.toNatClampNeg a1)))) else 0))
def d_X0_ticksOf (a1 : Int32) (a2 : Int32) : Prop := ((¬ (a1 < 0)) → (a1 < 6) → vp_in a1 6)
set_option maxRecDepth 20000 in
theorem c_X0_ticksOf (l : Launch) (D : va_G) (K : Nat → ClassId) (E0 : Nat) (B : Nat × Nat) (A0 : Nat → Prop) (a1 : Int32) (a2 : Int32) (t : CS) (h : d_X0_ticksOf a1 a2) : MetC l yX0_ticksOf cX0_ticksOf 3 (some .int) 0 [.int a1, .int a2] (qI (fun r t' => (v_X0_ticksOf a1 a2) = r ∧ t = t')) (fun _ _ => False) D K E0 B A0 t := by
  have u1 := h
  refine gc_start (by decide) rfl (Nat.le_of_ble_eq_true rfl) (fun p e s m args below meth c C E => ?_)
  refine gc_iloadn C 0 0 dX0_ticksOf_0 rfl rfl ?_
  refine gc_if_lt C 12 dX0_ticksOf_1 (by decide) (fun c1_1 => ?_) (fun c1_1 => ?_)
  · refine gc_iconst C 0 dX0_ticksOf_12 (by decide) ?_
    exact gc_iret C E (kdLe.rf _) dX0_ticksOf_13 ⟨_, rfl, (Eq.symm (((if_pos c1_1)).symm)), rfl⟩
  · refine gc_iloadn C 0 0 dX0_ticksOf_4 rfl rfl ?_
    refine gc_tickLen C v_i1363 dX0_ticksOf_5 dX0_ticksOf_8 ?_
    refine gc_icmp_lt C 14 dX0_ticksOf_9 (by decide) (fun c9_2 => ?_) (fun c9_2 => ?_)
    · refine gc_tickAt C 0 0 v_i1363 dX0_ticksOf_14 dX0_ticksOf_17 rfl rfl (u1 c1_1 c9_2) dX0_ticksOf_18 ?_
      refine gc_istoren C 2 [(2, .int (cTick (Int32.toNatClampNeg a1))), (0, .int a1), (1, .int a2)] dX0_ticksOf_19 rfl (by decide) rfl ?_
      refine gc_iloadn C 2 1 dX0_ticksOf_20 rfl rfl ?_
      refine gc_iconst C 1 dX0_ticksOf_21 (by decide) ?_
      refine gc_icmp_ne C 31 dX0_ticksOf_22 (by decide) (fun c22_3 => ?_) (fun c22_3 => ?_)
      · refine gc_iloadn C 2 1 dX0_ticksOf_31 rfl rfl ?_
        refine gc_iconst C 2 dX0_ticksOf_32 (by decide) ?_
        refine gc_icmp_ne C 44 dX0_ticksOf_33 (by decide) (fun c33_4 => ?_) (fun c33_4 => ?_)
        · refine gc_iloadn C 0 2 dX0_ticksOf_44 rfl rfl ?_
          exact gc_iret C E (kdLe.rf _) dX0_ticksOf_45 ⟨_, rfl, (Eq.symm (((Eq.trans (if_neg c1_1) (Eq.trans (if_pos c9_2) (Eq.trans (if_neg c22_3) (if_neg c33_4))))).symm)), rfl⟩
        · refine gc_iloadn C 0 2 dX0_ticksOf_36 rfl rfl ?_
          refine gc_iconst C 2 dX0_ticksOf_37 (by decide) ?_
          refine gc_imul C dX0_ticksOf_38 ?_
          refine gc_iconst C 3 dX0_ticksOf_39 (by decide) ?_
          refine gc_idiv C dX0_ticksOf_40 (by decide) ?_
          refine gc_goto C 45 dX0_ticksOf_41 (by decide) ?_
          exact gc_iret C E (kdLe.rf _) dX0_ticksOf_45 ⟨_, rfl, (Eq.symm (((Eq.trans (if_neg c1_1) (Eq.trans (if_pos c9_2) (Eq.trans (if_neg c22_3) (if_pos c33_4))))).symm)), rfl⟩
      · refine gc_iloadn C 0 2 dX0_ticksOf_25 rfl rfl ?_
        refine gc_iconst C 3 dX0_ticksOf_26 (by decide) ?_
        refine gc_imul C dX0_ticksOf_27 ?_
        refine gc_iconst C 2 dX0_ticksOf_28 (by decide) ?_
        refine gc_idiv C dX0_ticksOf_29 (by decide) ?_
        exact gc_iret C E (kdLe.rf _) dX0_ticksOf_30 ⟨_, rfl, (Eq.symm (((Eq.trans (if_neg c1_1) (Eq.trans (if_pos c9_2) (if_pos c22_3)))).symm)), rfl⟩
    · refine gc_iconst C 0 dX0_ticksOf_12 (by decide) ?_
      exact gc_iret C E (kdLe.rf _) dX0_ticksOf_13 ⟨_, rfl, (Eq.symm (((Eq.trans (if_neg c1_1) (if_neg c9_2))).symm)), rfl⟩
