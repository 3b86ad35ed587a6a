/-! THE CLASS, METHOD BY METHOD (9) -/
def w_X11_sheets (B : Nat × Nat) (a0 : Nat) (a1 : Int32) (t : CS) (Q : Int32 → CS → Prop) (X : String → CS → Prop) : Prop := (kdC t a0 = 14) ∧ w_X11_drawnPart B a0 a1 t (fun r2 t2 => (kdC t2 r2 = 7) ∧ ((fR t2 120 r2) ≠ none) ∧ (kdC t2 (oG (fR t2 120 r2)) = 6) ∧ Q (v_X11_sheetsFor (fI t2 98 (oG (fR t2 120 r2)))) t2) X
set_option maxRecDepth 20000 in
set_option maxHeartbeats 2000000 in
theorem c_X11_sheets (l : Launch) (D : va_G) (K : Nat → ClassId) (E0 : Nat) (B : Nat × Nat) (A0 : Nat → Prop) (a0 : Nat) (a1 : Int32) (t : CS) (Q : Int32 → CS → Prop) (X : String → CS → Prop) (h : w_X11_sheets B a0 a1 t Q X) : MetC l yX11_sheets cX11_sheets 2 (some .int) 12 [.ref a0, .int a1] (qI Q) X D K E0 B A0 t := by
  unfold w_X11_sheets at h
  refine gc_start (by decide) rfl (Nat.le_of_ble_eq_true rfl) (fun p e s m args below meth c C E => ?_)
  refine gc_aloadn C 0 0 dX11_sheets_0 rfl rfl ?_
  refine gc_iloadn C 1 1 dX11_sheets_1 rfl rfl ?_
  obtain ⟨g1, h⟩ := h
  refine gc_callV C BX11 (y := yX11_drawnPart) (as := [.int a1]) rfl (by decide) (by decide) (c_X11_drawnPart l D K E0 B A0 a0 a1 t _ X h) hk_X11_drawnPart rfl vl_X11_280 kc_X11_drawnPart (isC_of g1 (by decide)) dX11_sheets_2 (Nat.le_of_ble_eq_true rfl) (fun _ _ h => h) (qkR (fun r2 t2 h lt2 => ?_))
  obtain ⟨g3, h⟩ := h
  obtain ⟨g4, h⟩ := h
  refine gc_getR C BX4 120 8 (by decide) rfl ft_120 vf_X11_317 rfl (isC_of g3 (by decide)) (oG (fR t2 120 r2)) (oG_some g4) dX11_sheets_5 ?_
  obtain ⟨g5, h⟩ := h
  refine gc_getI C BX3 98 2 (by decide) rfl ft_98 vf_X11_321 rfl (isC_of g5 (by decide)) dX11_sheets_8 ?_
  refine gc_callS C (y := yX11_sheetsFor) (as := [.int (fI t2 98 (oG (fR t2 120 r2)))]) rfl (by decide) (by decide) (c_X11_sheetsFor l D K E0 B A0 (fI t2 98 (oG (fR t2 120 r2))) t2) hk_X11_sheetsFor rfl vl_X11_353 kc_X11_sheetsFor dX11_sheets_11 (Nat.le_of_ble_eq_true rfl) (fun _ _ h => h.elim) (qkIP ?_)
  exact gc_iret C E lt2 dX11_sheets_14 ⟨_, rfl, h⟩
def w_X11_sheetPage (B : Nat × Nat) (a0 : Nat) (a1 : Int32) (a2 : Int32) (a3 : Int32) (a4 : Int32) (t : CS) (Q : Int32 → CS → Prop) (X : String → CS → Prop) : Prop := (kdC t a0 = 14) ∧ w_X11_drawnPart B a0 a1 t (fun r2 t2 => (kdC t2 r2 = 7) ∧ ((fR t2 120 r2) ≠ none) ∧ (kdC t2 (oG (fR t2 120 r2)) = 6) ∧ ∀ x6 : Int32, x6 = (v_X11_sheetsFor (fI t2 98 (oG (fR t2 120 r2)))) → w_X11_requireIndex B a2 x6 t2 (fun t7 => ∀ x8 : Int32, x8 = (if a3 = 0 then 1 else 0) → ∀ x9 : Int32, x9 = ((2 * a2) + x8) → ∀ x10 : Int32, x10 = (if a3 = a4 then (((4 * x6) - 1) - x9) else x9) → Q x10 t7) X) X
set_option maxRecDepth 20000 in
set_option maxHeartbeats 2000000 in
theorem c_X11_sheetPage (l : Launch) (D : va_G) (K : Nat → ClassId) (E0 : Nat) (B : Nat × Nat) (A0 : Nat → Prop) (a0 : Nat) (a1 : Int32) (a2 : Int32) (a3 : Int32) (a4 : Int32) (t : CS) (Q : Int32 → CS → Prop) (X : String → CS → Prop) (h : w_X11_sheetPage B a0 a1 a2 a3 a4 t Q X) : MetC l yX11_sheetPage cX11_sheetPage 7 (some .int) 12 [.ref a0, .int a1, .int a2, .int a3, .int a4] (qI Q) X D K E0 B A0 t := by
  unfold w_X11_sheetPage at h
  refine gc_start (by decide) rfl (Nat.le_of_ble_eq_true rfl) (fun p e s m args below meth c C E => ?_)
  refine gc_aloadn C 0 0 dX11_sheetPage_0 rfl rfl ?_
  refine gc_iloadn C 1 1 dX11_sheetPage_1 rfl rfl ?_
  obtain ⟨g1, h⟩ := h
  refine gc_callV C BX11 (y := yX11_drawnPart) (as := [.int a1]) rfl (by decide) (by decide) (c_X11_drawnPart l D K E0 B A0 a0 a1 t _ X h) hk_X11_drawnPart rfl vl_X11_280 kc_X11_drawnPart (isC_of g1 (by decide)) dX11_sheetPage_2 (Nat.le_of_ble_eq_true rfl) (fun _ _ h => h) (qkR (fun r2 t2 h lt2 => ?_))
  obtain ⟨g3, h⟩ := h
  obtain ⟨g4, h⟩ := h
  refine gc_getR C BX4 120 8 (by decide) rfl ft_120 vf_X11_317 rfl (isC_of g3 (by decide)) (oG (fR t2 120 r2)) (oG_some g4) dX11_sheetPage_5 ?_
  obtain ⟨g5, h⟩ := h
  refine gc_getI C BX3 98 2 (by decide) rfl ft_98 vf_X11_321 rfl (isC_of g5 (by decide)) dX11_sheetPage_8 ?_
  refine gc_callS C (y := yX11_sheetsFor) (as := [.int (fI t2 98 (oG (fR t2 120 r2)))]) rfl (by decide) (by decide) (c_X11_sheetsFor l D K E0 B A0 (fI t2 98 (oG (fR t2 120 r2))) t2) hk_X11_sheetsFor rfl vl_X11_353 kc_X11_sheetsFor dX11_sheetPage_11 (Nat.le_of_ble_eq_true rfl) (fun _ _ h => h.elim) (qkIP ?_)
  refine gc_nameI (fun x6 ex6 => ?_)
  have h := h x6 ex6
  refine gc_istore C [(5, .int x6), (0, .ref a0), (1, .int a1), (2, .int a2), (3, .int a3), (4, .int a4)] dX11_sheetPage_14 (by decide) rfl ?_
  refine gc_iloadn C 3 2 dX11_sheetPage_16 rfl rfl ?_
  refine gc_iload C 0 dX11_sheetPage_17 rfl ?_
  refine gc_callS C (y := yX11_requireIndex) (as := [.int a2, .int x6]) rfl (by decide) (by decide) (c_X11_requireIndex l D K E0 B A0 a2 x6 t2 _ X h) hk_X11_requireIndex rfl vl_X11_119 kc_X11_requireIndex dX11_sheetPage_19 (Nat.le_of_ble_eq_true rfl) (fun _ _ h => h) (qkV (fun t7 h lt7 => ?_))
  refine gc_iconst C 2 dX11_sheetPage_22 (by decide) ?_
  refine gc_iloadn C 3 2 dX11_sheetPage_23 rfl rfl ?_
  refine gc_imul C dX11_sheetPage_24 ?_
  refine gc_iloadn C 4 3 dX11_sheetPage_25 rfl rfl ?_
  have k34 : ∀ x8 : Int32, x8 = (if a3 = 0 then 1 else 0) → GC p l e (rmC 12 B t) s m args below meth c 7 D K E0 B A0 (gc_Q below D K E0 A0 (qI Q) X args s t (rmC 12 B t)) t7 34 [(3, .int a3), (4, .int a4), (5, .int x6)] [.int x8, .int (2 * a2)] := by
    intro x8 ex8
    have h := h x8 ex8
    refine gc_iadd C dX11_sheetPage_34 ?_
    refine gc_nameI (fun x9 ex9 => ?_)
    have h := h x9 ex9
    refine gc_istore C [(6, .int x9), (3, .int a3), (4, .int a4), (5, .int x6)] dX11_sheetPage_35 (by decide) rfl ?_
    refine gc_iloadn C 1 3 dX11_sheetPage_37 rfl rfl ?_
    refine gc_iload C 2 dX11_sheetPage_38 rfl ?_
    have k57 : ∀ x10 : Int32, x10 = (if a3 = a4 then (((4 * x6) - 1) - x9) else x9) → GC p l e (rmC 12 B t) s m args below meth c 7 D K E0 B A0 (gc_Q below D K E0 A0 (qI Q) X args s t (rmC 12 B t)) t7 57 [] [.int x10] := by
      intro x10 ex10
      have h := h x10 ex10
      exact gc_iret C E (kdLe.tr lt2 lt7) dX11_sheetPage_57 ⟨_, rfl, h⟩
    refine gc_icmp_ne C 55 dX11_sheetPage_40 (by decide) (fun c40_2 => ?_) (fun c40_2 => ?_)
    · refine gc_iload C 0 dX11_sheetPage_55 rfl ?_
      refine gc_sub [] rfl ?_
      exact k57 _ ((if_neg c40_2).symm)
    · refine gc_iconst C 4 dX11_sheetPage_43 (by decide) ?_
      refine gc_iload C 3 dX11_sheetPage_44 rfl ?_
      refine gc_imul C dX11_sheetPage_46 ?_
      refine gc_iconst C 1 dX11_sheetPage_47 (by decide) ?_
      refine gc_isub C dX11_sheetPage_48 ?_
      refine gc_iload C 0 dX11_sheetPage_49 rfl ?_
      refine gc_isub C dX11_sheetPage_51 ?_
      refine gc_goto C 57 dX11_sheetPage_52 (by decide) ?_
      refine gc_sub [] rfl ?_
      exact k57 _ ((if_pos c40_2).symm)
  refine gc_if_eq C 33 dX11_sheetPage_26 (by decide) (fun c26_1 => ?_) (fun c26_1 => ?_)
  · refine gc_iconst C 1 dX11_sheetPage_33 (by decide) ?_
    refine gc_sub [4, 5, 0] rfl ?_
    exact k34 _ ((if_pos c26_1).symm)
  · refine gc_iconst C 0 dX11_sheetPage_29 (by decide) ?_
    refine gc_goto C 34 dX11_sheetPage_30 (by decide) ?_
    refine gc_sub [4, 5, 0] rfl ?_
    exact k34 _ ((if_neg c26_1).symm)
