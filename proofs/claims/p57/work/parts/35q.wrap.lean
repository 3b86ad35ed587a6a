/-! THE LAW'S METHODS THAT CALL THE CLASS AND CATCH (2) -/
def w_L_soundStart (B : Nat × Nat) (o : Nat) (a1 : Int32) (t : LwS) (Q : Int32 → LwS → Prop) : Prop := kdC t.1 o = 14 ∧ w_X11_soundStart B o a1 t.1 (fun r S' => Q r (S', t.2)) (fun E S' => (E = "java/lang/IndexOutOfBoundsException" ∧ Q (-1000001) (S', t.2)))
theorem c_L_soundStart (l : Launch) (D : va_G) (K : Nat → ClassId) (E0 b0 : Nat) (B : Nat × Nat) (o : Nat) (a1 : Int32) (t : LwS) (Q : Int32 → LwS → Prop) (h : w_L_soundStart B o a1 t Q) : MetR l yL_soundStart (.codeWith yL_soundStart cL_soundStart 3 (some .int) [(0, 5, 6, 26)]) 13 [.ref o, .int a1] Q D K E0 b0 B t := by
  obtain ⟨hk, h⟩ := h
  refine gr_startH (by decide) rfl (Nat.le_of_ble_eq_true rfl) (fun p e s m args below meth c C htab Em => ?_)
  refine gr_aloadn C 0 0 dL_soundStart_0 rfl rfl ?_
  refine gr_iloadn C 1 1 dL_soundStart_1 rfl rfl ?_
  refine gr_room (fun hr => ?_)
  refine gr_call C (y := yX11_soundStart) (as := [.int a1]) (by exact ⟨Nat.le_of_ble_eq_true rfl, Nat.le_of_ble_eq_true rfl⟩) B ⟨Nat.le_refl _, Nat.le_refl _⟩ hr (c_X11_soundStart l D K E0 B _ o a1 t.1 _ _ h) hk_X11_soundStart rfl vl_L_106 kc_X11_soundStart (isC_of hk (by decide)) dL_soundStart_2 (Nat.le_of_ble_eq_true rfl) ?hx ?hn
  case hx =>
    rintro E S' hx _ _
    rcases hx with ⟨rfl, h⟩
    · refine gr_catch C htab [] (0, 5, 6, 26) [] rfl (fun _ h9 => absurd h9 List.not_mem_nil) (by decide +kernel) (by decide) (by decide) v_i457 n_i467 (fun q => ?_)
      refine gr_astoren C 2 [(2, .ref q), (0, .ref o), (1, .int a1)] dL_soundStart_6 rfl (by decide) rfl ?_
      refine gr_ldc C (-1000001) v_i533 dL_soundStart_7 ?_
      exact gr_iret C Em dL_soundStart_9 h
  case hn =>
    rintro v S' ⟨r, rfl, h⟩ _ _ _
    exact gr_iret C Em dL_soundStart_5 h
def w_L_soundTime (B : Nat × Nat) (o : Nat) (a1 : Int32) (t : LwS) (Q : Int32 → LwS → Prop) : Prop := kdC t.1 o = 14 ∧ w_X11_soundTime B o a1 t.1 (fun r S' => Q r (S', t.2)) (fun E S' => (E = "java/lang/IndexOutOfBoundsException" ∧ Q (-1000001) (S', t.2)))
theorem c_L_soundTime (l : Launch) (D : va_G) (K : Nat → ClassId) (E0 b0 : Nat) (B : Nat × Nat) (o : Nat) (a1 : Int32) (t : LwS) (Q : Int32 → LwS → Prop) (h : w_L_soundTime B o a1 t Q) : MetR l yL_soundTime (.codeWith yL_soundTime cL_soundTime 3 (some .int) [(0, 5, 6, 26)]) 13 [.ref o, .int a1] Q D K E0 b0 B t := by
  obtain ⟨hk, h⟩ := h
  refine gr_startH (by decide) rfl (Nat.le_of_ble_eq_true rfl) (fun p e s m args below meth c C htab Em => ?_)
  refine gr_aloadn C 0 0 dL_soundTime_0 rfl rfl ?_
  refine gr_iloadn C 1 1 dL_soundTime_1 rfl rfl ?_
  refine gr_room (fun hr => ?_)
  refine gr_call C (y := yX11_soundTime) (as := [.int a1]) (by exact ⟨Nat.le_of_ble_eq_true rfl, Nat.le_of_ble_eq_true rfl⟩) B ⟨Nat.le_refl _, Nat.le_refl _⟩ hr (c_X11_soundTime l D K E0 B _ o a1 t.1 _ _ h) hk_X11_soundTime rfl vl_L_109 kc_X11_soundTime (isC_of hk (by decide)) dL_soundTime_2 (Nat.le_of_ble_eq_true rfl) ?hx ?hn
  case hx =>
    rintro E S' hx _ _
    rcases hx with ⟨rfl, h⟩
    · refine gr_catch C htab [] (0, 5, 6, 26) [] rfl (fun _ h9 => absurd h9 List.not_mem_nil) (by decide +kernel) (by decide) (by decide) v_i457 n_i467 (fun q => ?_)
      refine gr_astoren C 2 [(2, .ref q), (0, .ref o), (1, .int a1)] dL_soundTime_6 rfl (by decide) rfl ?_
      refine gr_ldc C (-1000001) v_i533 dL_soundTime_7 ?_
      exact gr_iret C Em dL_soundTime_9 h
  case hn =>
    rintro v S' ⟨r, rfl, h⟩ _ _ _
    exact gr_iret C Em dL_soundTime_5 h
def w_L_soundPitch (B : Nat × Nat) (o : Nat) (a1 : Int32) (t : LwS) (Q : Int32 → LwS → Prop) : Prop := kdC t.1 o = 14 ∧ w_X11_soundPitch B o a1 t.1 (fun r S' => Q r (S', t.2)) (fun E S' => (E = "java/lang/IndexOutOfBoundsException" ∧ Q (-1000001) (S', t.2)))
theorem c_L_soundPitch (l : Launch) (D : va_G) (K : Nat → ClassId) (E0 b0 : Nat) (B : Nat × Nat) (o : Nat) (a1 : Int32) (t : LwS) (Q : Int32 → LwS → Prop) (h : w_L_soundPitch B o a1 t Q) : MetR l yL_soundPitch (.codeWith yL_soundPitch cL_soundPitch 3 (some .int) [(0, 5, 6, 26)]) 13 [.ref o, .int a1] Q D K E0 b0 B t := by
  obtain ⟨hk, h⟩ := h
  refine gr_startH (by decide) rfl (Nat.le_of_ble_eq_true rfl) (fun p e s m args below meth c C htab Em => ?_)
  refine gr_aloadn C 0 0 dL_soundPitch_0 rfl rfl ?_
  refine gr_iloadn C 1 1 dL_soundPitch_1 rfl rfl ?_
  refine gr_room (fun hr => ?_)
  refine gr_call C (y := yX11_soundPitch) (as := [.int a1]) (by exact ⟨Nat.le_of_ble_eq_true rfl, Nat.le_of_ble_eq_true rfl⟩) B ⟨Nat.le_refl _, Nat.le_refl _⟩ hr (c_X11_soundPitch l D K E0 B _ o a1 t.1 _ _ h) hk_X11_soundPitch rfl vl_L_112 kc_X11_soundPitch (isC_of hk (by decide)) dL_soundPitch_2 (Nat.le_of_ble_eq_true rfl) ?hx ?hn
  case hx =>
    rintro E S' hx _ _
    rcases hx with ⟨rfl, h⟩
    · refine gr_catch C htab [] (0, 5, 6, 26) [] rfl (fun _ h9 => absurd h9 List.not_mem_nil) (by decide +kernel) (by decide) (by decide) v_i457 n_i467 (fun q => ?_)
      refine gr_astoren C 2 [(2, .ref q), (0, .ref o), (1, .int a1)] dL_soundPitch_6 rfl (by decide) rfl ?_
      refine gr_ldc C (-1000001) v_i533 dL_soundPitch_7 ?_
      exact gr_iret C Em dL_soundPitch_9 h
  case hn =>
    rintro v S' ⟨r, rfl, h⟩ _ _ _
    exact gr_iret C Em dL_soundPitch_5 h
def w_L_loudness (B : Nat × Nat) (o : Nat) (a1 : Int32) (t : LwS) (Q : Int32 → LwS → Prop) : Prop := kdC t.1 o = 14 ∧ w_X11_loudness B o a1 t.1 (fun r S' => Q r (S', t.2)) (fun E S' => (E = "java/lang/IndexOutOfBoundsException" ∧ Q (-1000001) (S', t.2)))
theorem c_L_loudness (l : Launch) (D : va_G) (K : Nat → ClassId) (E0 b0 : Nat) (B : Nat × Nat) (o : Nat) (a1 : Int32) (t : LwS) (Q : Int32 → LwS → Prop) (h : w_L_loudness B o a1 t Q) : MetR l yL_loudness (.codeWith yL_loudness cL_loudness 3 (some .int) [(0, 5, 6, 26)]) 13 [.ref o, .int a1] Q D K E0 b0 B t := by
  obtain ⟨hk, h⟩ := h
  refine gr_startH (by decide) rfl (Nat.le_of_ble_eq_true rfl) (fun p e s m args below meth c C htab Em => ?_)
  refine gr_aloadn C 0 0 dL_loudness_0 rfl rfl ?_
  refine gr_iloadn C 1 1 dL_loudness_1 rfl rfl ?_
  refine gr_room (fun hr => ?_)
  refine gr_call C (y := yX11_loudness) (as := [.int a1]) (by exact ⟨Nat.le_of_ble_eq_true rfl, Nat.le_of_ble_eq_true rfl⟩) B ⟨Nat.le_refl _, Nat.le_refl _⟩ hr (c_X11_loudness l D K E0 B _ o a1 t.1 _ _ h) hk_X11_loudness rfl vl_L_115 kc_X11_loudness (isC_of hk (by decide)) dL_loudness_2 (Nat.le_of_ble_eq_true rfl) ?hx ?hn
  case hx =>
    rintro E S' hx _ _
    rcases hx with ⟨rfl, h⟩
    · refine gr_catch C htab [] (0, 5, 6, 26) [] rfl (fun _ h9 => absurd h9 List.not_mem_nil) (by decide +kernel) (by decide) (by decide) v_i457 n_i467 (fun q => ?_)
      refine gr_astoren C 2 [(2, .ref q), (0, .ref o), (1, .int a1)] dL_loudness_6 rfl (by decide) rfl ?_
      refine gr_ldc C (-1000001) v_i533 dL_loudness_7 ?_
      exact gr_iret C Em dL_loudness_9 h
  case hn =>
    rintro v S' ⟨r, rfl, h⟩ _ _ _
    exact gr_iret C Em dL_loudness_5 h
def w_L_setPaper (B : Nat × Nat) (o : Nat) (a1 : Int32) (a2 : Int32) (a3 : Int32) (t : LwS) (Q : Int32 → LwS → Prop) : Prop := kdC t.1 o = 14 ∧ w_X11_setPaper B o a1 a2 a3 t.1 (fun S' => Q 0 (S', t.2)) (fun E S' => (E = "java/lang/IllegalArgumentException" ∧ Q (-1000002) (S', t.2)))
theorem c_L_setPaper (l : Launch) (D : va_G) (K : Nat → ClassId) (E0 b0 : Nat) (B : Nat × Nat) (o : Nat) (a1 : Int32) (a2 : Int32) (a3 : Int32) (t : LwS) (Q : Int32 → LwS → Prop) (h : w_L_setPaper B o a1 a2 a3 t Q) : MetR l yL_setPaper (.codeWith yL_setPaper cL_setPaper 5 (some .int) [(0, 8, 9, 16)]) 8 [.ref o, .int a1, .int a2, .int a3] Q D K E0 b0 B t := by
  obtain ⟨hk, h⟩ := h
  refine gr_startH (by decide) rfl (Nat.le_of_ble_eq_true rfl) (fun p e s m args below meth c C htab Em => ?_)
  refine gr_aloadn C 0 0 dL_setPaper_0 rfl rfl ?_
  refine gr_iloadn C 1 1 dL_setPaper_1 rfl rfl ?_
  refine gr_iloadn C 2 2 dL_setPaper_2 rfl rfl ?_
  refine gr_iloadn C 3 3 dL_setPaper_3 rfl rfl ?_
  refine gr_room (fun hr => ?_)
  refine gr_call C (y := yX11_setPaper) (as := [.int a1, .int a2, .int a3]) (by exact ⟨Nat.le_of_ble_eq_true rfl, Nat.le_of_ble_eq_true rfl⟩) B ⟨Nat.le_refl _, Nat.le_refl _⟩ hr (c_X11_setPaper l D K E0 B _ o a1 a2 a3 t.1 _ _ h) hk_X11_setPaper rfl vl_L_118 kc_X11_setPaper (isC_of hk (by decide)) dL_setPaper_4 (Nat.le_of_ble_eq_true rfl) ?hx ?hn
  case hx =>
    rintro E S' hx _ _
    rcases hx with ⟨rfl, h⟩
    · refine gr_catch C htab [] (0, 8, 9, 16) [] rfl (fun _ h9 => absurd h9 List.not_mem_nil) (by decide +kernel) (by decide) (by decide) v_i577 n_i590 (fun q => ?_)
      refine gr_astore C [(4, .ref q), (0, .ref o), (1, .int a1), (2, .int a2), (3, .int a3)] dL_setPaper_9 (by decide) rfl ?_
      refine gr_ldc C (-1000002) v_i617 dL_setPaper_11 ?_
      exact gr_iret C Em dL_setPaper_13 h
  case hn =>
    rintro v S' ⟨rfl, h⟩ _ _ _
    refine gr_iconst C 0 dL_setPaper_7 (by decide) ?_
    exact gr_iret C Em dL_setPaper_8 h
def w_L_items (B : Nat × Nat) (o : Nat) (a1 : Int32) (t : LwS) (Q : Int32 → LwS → Prop) : Prop := kdC t.1 o = 14 ∧ w_X11_items B o a1 t.1 (fun r S' => Q r (S', t.2)) (fun E S' => (E = "java/lang/IllegalArgumentException" ∧ Q (-1000002) (S', t.2)) ∨ (E = "java/lang/IllegalStateException" ∧ Q (-1000003) (S', t.2)))
theorem c_L_items (l : Launch) (D : va_G) (K : Nat → ClassId) (E0 b0 : Nat) (B : Nat × Nat) (o : Nat) (a1 : Int32) (t : LwS) (Q : Int32 → LwS → Prop) (h : w_L_items B o a1 t Q) : MetR l yL_items (.codeWith yL_items cL_items 3 (some .int) [(0, 5, 6, 16), (0, 5, 10, 19)]) 13 [.ref o, .int a1] Q D K E0 b0 B t := by
  obtain ⟨hk, h⟩ := h
  refine gr_startH (by decide) rfl (Nat.le_of_ble_eq_true rfl) (fun p e s m args below meth c C htab Em => ?_)
  refine gr_aloadn C 0 0 dL_items_0 rfl rfl ?_
  refine gr_iloadn C 1 1 dL_items_1 rfl rfl ?_
  refine gr_room (fun hr => ?_)
  refine gr_call C (y := yX11_items) (as := [.int a1]) (by exact ⟨Nat.le_of_ble_eq_true rfl, Nat.le_of_ble_eq_true rfl⟩) B ⟨Nat.le_refl _, Nat.le_refl _⟩ hr (c_X11_items l D K E0 B _ o a1 t.1 _ _ h) hk_X11_items rfl vl_L_122 kc_X11_items (isC_of hk (by decide)) dL_items_2 (Nat.le_of_ble_eq_true rfl) ?hx ?hn
  case hx =>
    rintro E S' hx _ _
    rcases hx with ⟨rfl, h⟩ | ⟨rfl, h⟩
    · refine gr_catch C htab [] (0, 5, 6, 16) [(0, 5, 10, 19)] rfl (fun _ h9 => absurd h9 List.not_mem_nil) (by decide +kernel) (by decide) (by decide) v_i577 n_i590 (fun q => ?_)
      refine gr_astoren C 2 [(2, .ref q), (0, .ref o), (1, .int a1)] dL_items_6 rfl (by decide) rfl ?_
      refine gr_ldc C (-1000002) v_i617 dL_items_7 ?_
      exact gr_iret C Em dL_items_9 h
    · refine gr_catch C htab [(0, 5, 6, 16)] (0, 5, 10, 19) [] rfl (List.forall_mem_cons.mpr ⟨⟨by decide, "java/lang/IllegalArgumentException", v_i577, by decide +kernel, by decide +kernel⟩, fun _ h9 => absurd h9 List.not_mem_nil⟩) (by decide +kernel) (by decide) (by decide) v_i632 n_i649 (fun q => ?_)
      refine gr_astoren C 2 [(2, .ref q), (0, .ref o), (1, .int a1)] dL_items_10 rfl (by decide) rfl ?_
      refine gr_ldc C (-1000003) v_i908 dL_items_11 ?_
      exact gr_iret C Em dL_items_13 h
  case hn =>
    rintro v S' ⟨r, rfl, h⟩ _ _ _
    exact gr_iret C Em dL_items_5 h
def w_L_itemKind (B : Nat × Nat) (o : Nat) (a1 : Int32) (a2 : Int32) (t : LwS) (Q : Int32 → LwS → Prop) : Prop := kdC t.1 o = 14 ∧ w_X11_itemKind B o a1 a2 t.1 (fun r S' => Q r (S', t.2)) (fun E S' => (E = "java/lang/IllegalArgumentException" ∧ Q (-1000002) (S', t.2)) ∨ (E = "java/lang/IllegalStateException" ∧ Q (-1000003) (S', t.2)) ∨ (E = "java/lang/IndexOutOfBoundsException" ∧ Q (-1000001) (S', t.2)))
theorem c_L_itemKind (l : Launch) (D : va_G) (K : Nat → ClassId) (E0 b0 : Nat) (B : Nat × Nat) (o : Nat) (a1 : Int32) (a2 : Int32) (t : LwS) (Q : Int32 → LwS → Prop) (h : w_L_itemKind B o a1 a2 t Q) : MetR l yL_itemKind (.codeWith yL_itemKind cL_itemKind 4 (some .int) [(0, 6, 7, 16), (0, 6, 11, 19), (0, 6, 15, 26)]) 13 [.ref o, .int a1, .int a2] Q D K E0 b0 B t := by
  obtain ⟨hk, h⟩ := h
  refine gr_startH (by decide) rfl (Nat.le_of_ble_eq_true rfl) (fun p e s m args below meth c C htab Em => ?_)
  refine gr_aloadn C 0 0 dL_itemKind_0 rfl rfl ?_
  refine gr_iloadn C 1 1 dL_itemKind_1 rfl rfl ?_
  refine gr_iloadn C 2 2 dL_itemKind_2 rfl rfl ?_
  refine gr_room (fun hr => ?_)
  refine gr_call C (y := yX11_itemKind) (as := [.int a1, .int a2]) (by exact ⟨Nat.le_of_ble_eq_true rfl, Nat.le_of_ble_eq_true rfl⟩) B ⟨Nat.le_refl _, Nat.le_refl _⟩ hr (c_X11_itemKind l D K E0 B _ o a1 a2 t.1 _ _ h) hk_X11_itemKind rfl vl_L_125 kc_X11_itemKind (isC_of hk (by decide)) dL_itemKind_3 (Nat.le_of_ble_eq_true rfl) ?hx ?hn
  case hx =>
    rintro E S' hx _ _
    rcases hx with ⟨rfl, h⟩ | ⟨rfl, h⟩ | ⟨rfl, h⟩
    · refine gr_catch C htab [] (0, 6, 7, 16) [(0, 6, 11, 19), (0, 6, 15, 26)] rfl (fun _ h9 => absurd h9 List.not_mem_nil) (by decide +kernel) (by decide) (by decide) v_i577 n_i590 (fun q => ?_)
      refine gr_astoren C 3 [(3, .ref q), (0, .ref o), (1, .int a1), (2, .int a2)] dL_itemKind_7 rfl (by decide) rfl ?_
      refine gr_ldc C (-1000002) v_i617 dL_itemKind_8 ?_
      exact gr_iret C Em dL_itemKind_10 h
    · refine gr_catch C htab [(0, 6, 7, 16)] (0, 6, 11, 19) [(0, 6, 15, 26)] rfl (List.forall_mem_cons.mpr ⟨⟨by decide, "java/lang/IllegalArgumentException", v_i577, by decide +kernel, by decide +kernel⟩, fun _ h9 => absurd h9 List.not_mem_nil⟩) (by decide +kernel) (by decide) (by decide) v_i632 n_i649 (fun q => ?_)
      refine gr_astoren C 3 [(3, .ref q), (0, .ref o), (1, .int a1), (2, .int a2)] dL_itemKind_11 rfl (by decide) rfl ?_
      refine gr_ldc C (-1000003) v_i908 dL_itemKind_12 ?_
      exact gr_iret C Em dL_itemKind_14 h
    · refine gr_catch C htab [(0, 6, 7, 16), (0, 6, 11, 19)] (0, 6, 15, 26) [] rfl (List.forall_mem_cons.mpr ⟨⟨by decide, "java/lang/IllegalArgumentException", v_i577, by decide +kernel, by decide +kernel⟩, List.forall_mem_cons.mpr ⟨⟨by decide, "java/lang/IllegalStateException", v_i632, by decide +kernel, by decide +kernel⟩, fun _ h9 => absurd h9 List.not_mem_nil⟩⟩) (by decide +kernel) (by decide) (by decide) v_i457 n_i467 (fun q => ?_)
      refine gr_astoren C 3 [(3, .ref q), (0, .ref o), (1, .int a1), (2, .int a2)] dL_itemKind_15 rfl (by decide) rfl ?_
      refine gr_ldc C (-1000001) v_i533 dL_itemKind_16 ?_
      exact gr_iret C Em dL_itemKind_18 h
  case hn =>
    rintro v S' ⟨r, rfl, h⟩ _ _ _
    exact gr_iret C Em dL_itemKind_6 h
def w_L_itemBar (B : Nat × Nat) (o : Nat) (a1 : Int32) (a2 : Int32) (t : LwS) (Q : Int32 → LwS → Prop) : Prop := kdC t.1 o = 14 ∧ w_X11_itemBar B o a1 a2 t.1 (fun r S' => Q r (S', t.2)) (fun E S' => (E = "java/lang/IllegalArgumentException" ∧ Q (-1000002) (S', t.2)) ∨ (E = "java/lang/IllegalStateException" ∧ Q (-1000003) (S', t.2)) ∨ (E = "java/lang/IndexOutOfBoundsException" ∧ Q (-1000001) (S', t.2)))
theorem c_L_itemBar (l : Launch) (D : va_G) (K : Nat → ClassId) (E0 b0 : Nat) (B : Nat × Nat) (o : Nat) (a1 : Int32) (a2 : Int32) (t : LwS) (Q : Int32 → LwS → Prop) (h : w_L_itemBar B o a1 a2 t Q) : MetR l yL_itemBar (.codeWith yL_itemBar cL_itemBar 4 (some .int) [(0, 6, 7, 16), (0, 6, 11, 19), (0, 6, 15, 26)]) 13 [.ref o, .int a1, .int a2] Q D K E0 b0 B t := by
  obtain ⟨hk, h⟩ := h
  refine gr_startH (by decide) rfl (Nat.le_of_ble_eq_true rfl) (fun p e s m args below meth c C htab Em => ?_)
  refine gr_aloadn C 0 0 dL_itemBar_0 rfl rfl ?_
  refine gr_iloadn C 1 1 dL_itemBar_1 rfl rfl ?_
  refine gr_iloadn C 2 2 dL_itemBar_2 rfl rfl ?_
  refine gr_room (fun hr => ?_)
  refine gr_call C (y := yX11_itemBar) (as := [.int a1, .int a2]) (by exact ⟨Nat.le_of_ble_eq_true rfl, Nat.le_of_ble_eq_true rfl⟩) B ⟨Nat.le_refl _, Nat.le_refl _⟩ hr (c_X11_itemBar l D K E0 B _ o a1 a2 t.1 _ _ h) hk_X11_itemBar rfl vl_L_128 kc_X11_itemBar (isC_of hk (by decide)) dL_itemBar_3 (Nat.le_of_ble_eq_true rfl) ?hx ?hn
  case hx =>
    rintro E S' hx _ _
    rcases hx with ⟨rfl, h⟩ | ⟨rfl, h⟩ | ⟨rfl, h⟩
    · refine gr_catch C htab [] (0, 6, 7, 16) [(0, 6, 11, 19), (0, 6, 15, 26)] rfl (fun _ h9 => absurd h9 List.not_mem_nil) (by decide +kernel) (by decide) (by decide) v_i577 n_i590 (fun q => ?_)
      refine gr_astoren C 3 [(3, .ref q), (0, .ref o), (1, .int a1), (2, .int a2)] dL_itemBar_7 rfl (by decide) rfl ?_
      refine gr_ldc C (-1000002) v_i617 dL_itemBar_8 ?_
      exact gr_iret C Em dL_itemBar_10 h
    · refine gr_catch C htab [(0, 6, 7, 16)] (0, 6, 11, 19) [(0, 6, 15, 26)] rfl (List.forall_mem_cons.mpr ⟨⟨by decide, "java/lang/IllegalArgumentException", v_i577, by decide +kernel, by decide +kernel⟩, fun _ h9 => absurd h9 List.not_mem_nil⟩) (by decide +kernel) (by decide) (by decide) v_i632 n_i649 (fun q => ?_)
      refine gr_astoren C 3 [(3, .ref q), (0, .ref o), (1, .int a1), (2, .int a2)] dL_itemBar_11 rfl (by decide) rfl ?_
      refine gr_ldc C (-1000003) v_i908 dL_itemBar_12 ?_
      exact gr_iret C Em dL_itemBar_14 h
    · refine gr_catch C htab [(0, 6, 7, 16), (0, 6, 11, 19)] (0, 6, 15, 26) [] rfl (List.forall_mem_cons.mpr ⟨⟨by decide, "java/lang/IllegalArgumentException", v_i577, by decide +kernel, by decide +kernel⟩, List.forall_mem_cons.mpr ⟨⟨by decide, "java/lang/IllegalStateException", v_i632, by decide +kernel, by decide +kernel⟩, fun _ h9 => absurd h9 List.not_mem_nil⟩⟩) (by decide +kernel) (by decide) (by decide) v_i457 n_i467 (fun q => ?_)
      refine gr_astoren C 3 [(3, .ref q), (0, .ref o), (1, .int a1), (2, .int a2)] dL_itemBar_15 rfl (by decide) rfl ?_
      refine gr_ldc C (-1000001) v_i533 dL_itemBar_16 ?_
      exact gr_iret C Em dL_itemBar_18 h
  case hn =>
    rintro v S' ⟨r, rfl, h⟩ _ _ _
    exact gr_iret C Em dL_itemBar_6 h
def w_L_itemBars (B : Nat × Nat) (o : Nat) (a1 : Int32) (a2 : Int32) (t : LwS) (Q : Int32 → LwS → Prop) : Prop := kdC t.1 o = 14 ∧ w_X11_itemBars B o a1 a2 t.1 (fun r S' => Q r (S', t.2)) (fun E S' => (E = "java/lang/IllegalArgumentException" ∧ Q (-1000002) (S', t.2)) ∨ (E = "java/lang/IllegalStateException" ∧ Q (-1000003) (S', t.2)) ∨ (E = "java/lang/IndexOutOfBoundsException" ∧ Q (-1000001) (S', t.2)))
theorem c_L_itemBars (l : Launch) (D : va_G) (K : Nat → ClassId) (E0 b0 : Nat) (B : Nat × Nat) (o : Nat) (a1 : Int32) (a2 : Int32) (t : LwS) (Q : Int32 → LwS → Prop) (h : w_L_itemBars B o a1 a2 t Q) : MetR l yL_itemBars (.codeWith yL_itemBars cL_itemBars 4 (some .int) [(0, 6, 7, 16), (0, 6, 11, 19), (0, 6, 15, 26)]) 13 [.ref o, .int a1, .int a2] Q D K E0 b0 B t := by
  obtain ⟨hk, h⟩ := h
  refine gr_startH (by decide) rfl (Nat.le_of_ble_eq_true rfl) (fun p e s m args below meth c C htab Em => ?_)
  refine gr_aloadn C 0 0 dL_itemBars_0 rfl rfl ?_
  refine gr_iloadn C 1 1 dL_itemBars_1 rfl rfl ?_
  refine gr_iloadn C 2 2 dL_itemBars_2 rfl rfl ?_
  refine gr_room (fun hr => ?_)
  refine gr_call C (y := yX11_itemBars) (as := [.int a1, .int a2]) (by exact ⟨Nat.le_of_ble_eq_true rfl, Nat.le_of_ble_eq_true rfl⟩) B ⟨Nat.le_refl _, Nat.le_refl _⟩ hr (c_X11_itemBars l D K E0 B _ o a1 a2 t.1 _ _ h) hk_X11_itemBars rfl vl_L_131 kc_X11_itemBars (isC_of hk (by decide)) dL_itemBars_3 (Nat.le_of_ble_eq_true rfl) ?hx ?hn
  case hx =>
    rintro E S' hx _ _
    rcases hx with ⟨rfl, h⟩ | ⟨rfl, h⟩ | ⟨rfl, h⟩
    · refine gr_catch C htab [] (0, 6, 7, 16) [(0, 6, 11, 19), (0, 6, 15, 26)] rfl (fun _ h9 => absurd h9 List.not_mem_nil) (by decide +kernel) (by decide) (by decide) v_i577 n_i590 (fun q => ?_)
      refine gr_astoren C 3 [(3, .ref q), (0, .ref o), (1, .int a1), (2, .int a2)] dL_itemBars_7 rfl (by decide) rfl ?_
      refine gr_ldc C (-1000002) v_i617 dL_itemBars_8 ?_
      exact gr_iret C Em dL_itemBars_10 h
    · refine gr_catch C htab [(0, 6, 7, 16)] (0, 6, 11, 19) [(0, 6, 15, 26)] rfl (List.forall_mem_cons.mpr ⟨⟨by decide, "java/lang/IllegalArgumentException", v_i577, by decide +kernel, by decide +kernel⟩, fun _ h9 => absurd h9 List.not_mem_nil⟩) (by decide +kernel) (by decide) (by decide) v_i632 n_i649 (fun q => ?_)
      refine gr_astoren C 3 [(3, .ref q), (0, .ref o), (1, .int a1), (2, .int a2)] dL_itemBars_11 rfl (by decide) rfl ?_
      refine gr_ldc C (-1000003) v_i908 dL_itemBars_12 ?_
      exact gr_iret C Em dL_itemBars_14 h
    · refine gr_catch C htab [(0, 6, 7, 16), (0, 6, 11, 19)] (0, 6, 15, 26) [] rfl (List.forall_mem_cons.mpr ⟨⟨by decide, "java/lang/IllegalArgumentException", v_i577, by decide +kernel, by decide +kernel⟩, List.forall_mem_cons.mpr ⟨⟨by decide, "java/lang/IllegalStateException", v_i632, by decide +kernel, by decide +kernel⟩, fun _ h9 => absurd h9 List.not_mem_nil⟩⟩) (by decide +kernel) (by decide) (by decide) v_i457 n_i467 (fun q => ?_)
      refine gr_astoren C 3 [(3, .ref q), (0, .ref o), (1, .int a1), (2, .int a2)] dL_itemBars_15 rfl (by decide) rfl ?_
      refine gr_ldc C (-1000001) v_i533 dL_itemBars_16 ?_
      exact gr_iret C Em dL_itemBars_18 h
  case hn =>
    rintro v S' ⟨r, rfl, h⟩ _ _ _
    exact gr_iret C Em dL_itemBars_6 h
def w_L_cue (B : Nat × Nat) (o : Nat) (a1 : Int32) (a2 : Int32) (t : LwS) (Q : Int32 → LwS → Prop) : Prop := kdC t.1 o = 14 ∧ w_X11_cue B o a1 a2 t.1 (fun r S' => Q r (S', t.2)) (fun E S' => (E = "java/lang/IllegalArgumentException" ∧ Q (-1000002) (S', t.2)) ∨ (E = "java/lang/IllegalStateException" ∧ Q (-1000003) (S', t.2)) ∨ (E = "java/lang/IndexOutOfBoundsException" ∧ Q (-1000001) (S', t.2)))
theorem c_L_cue (l : Launch) (D : va_G) (K : Nat → ClassId) (E0 b0 : Nat) (B : Nat × Nat) (o : Nat) (a1 : Int32) (a2 : Int32) (t : LwS) (Q : Int32 → LwS → Prop) (h : w_L_cue B o a1 a2 t Q) : MetR l yL_cue (.codeWith yL_cue cL_cue 4 (some .int) [(0, 6, 7, 16), (0, 6, 11, 19), (0, 6, 15, 26)]) 13 [.ref o, .int a1, .int a2] Q D K E0 b0 B t := by
  obtain ⟨hk, h⟩ := h
  refine gr_startH (by decide) rfl (Nat.le_of_ble_eq_true rfl) (fun p e s m args below meth c C htab Em => ?_)
  refine gr_aloadn C 0 0 dL_cue_0 rfl rfl ?_
  refine gr_iloadn C 1 1 dL_cue_1 rfl rfl ?_
  refine gr_iloadn C 2 2 dL_cue_2 rfl rfl ?_
  refine gr_room (fun hr => ?_)
  refine gr_call C (y := yX11_cue) (as := [.int a1, .int a2]) (by exact ⟨Nat.le_of_ble_eq_true rfl, Nat.le_of_ble_eq_true rfl⟩) B ⟨Nat.le_refl _, Nat.le_refl _⟩ hr (c_X11_cue l D K E0 B _ o a1 a2 t.1 _ _ h) hk_X11_cue rfl vl_L_134 kc_X11_cue (isC_of hk (by decide)) dL_cue_3 (Nat.le_of_ble_eq_true rfl) ?hx ?hn
  case hx =>
    rintro E S' hx _ _
    rcases hx with ⟨rfl, h⟩ | ⟨rfl, h⟩ | ⟨rfl, h⟩
    · refine gr_catch C htab [] (0, 6, 7, 16) [(0, 6, 11, 19), (0, 6, 15, 26)] rfl (fun _ h9 => absurd h9 List.not_mem_nil) (by decide +kernel) (by decide) (by decide) v_i577 n_i590 (fun q => ?_)
      refine gr_astoren C 3 [(3, .ref q), (0, .ref o), (1, .int a1), (2, .int a2)] dL_cue_7 rfl (by decide) rfl ?_
      refine gr_ldc C (-1000002) v_i617 dL_cue_8 ?_
      exact gr_iret C Em dL_cue_10 h
    · refine gr_catch C htab [(0, 6, 7, 16)] (0, 6, 11, 19) [(0, 6, 15, 26)] rfl (List.forall_mem_cons.mpr ⟨⟨by decide, "java/lang/IllegalArgumentException", v_i577, by decide +kernel, by decide +kernel⟩, fun _ h9 => absurd h9 List.not_mem_nil⟩) (by decide +kernel) (by decide) (by decide) v_i632 n_i649 (fun q => ?_)
      refine gr_astoren C 3 [(3, .ref q), (0, .ref o), (1, .int a1), (2, .int a2)] dL_cue_11 rfl (by decide) rfl ?_
      refine gr_ldc C (-1000003) v_i908 dL_cue_12 ?_
      exact gr_iret C Em dL_cue_14 h
    · refine gr_catch C htab [(0, 6, 7, 16), (0, 6, 11, 19)] (0, 6, 15, 26) [] rfl (List.forall_mem_cons.mpr ⟨⟨by decide, "java/lang/IllegalArgumentException", v_i577, by decide +kernel, by decide +kernel⟩, List.forall_mem_cons.mpr ⟨⟨by decide, "java/lang/IllegalStateException", v_i632, by decide +kernel, by decide +kernel⟩, fun _ h9 => absurd h9 List.not_mem_nil⟩⟩) (by decide +kernel) (by decide) (by decide) v_i457 n_i467 (fun q => ?_)
      refine gr_astoren C 3 [(3, .ref q), (0, .ref o), (1, .int a1), (2, .int a2)] dL_cue_15 rfl (by decide) rfl ?_
      refine gr_ldc C (-1000001) v_i533 dL_cue_16 ?_
      exact gr_iret C Em dL_cue_18 h
  case hn =>
    rintro v S' ⟨r, rfl, h⟩ _ _ _
    exact gr_iret C Em dL_cue_6 h
def w_L_itemWidth (B : Nat × Nat) (o : Nat) (a1 : Int32) (a2 : Int32) (t : LwS) (Q : Int32 → LwS → Prop) : Prop := kdC t.1 o = 14 ∧ w_X11_itemWidth B o a1 a2 t.1 (fun r S' => Q r (S', t.2)) (fun E S' => (E = "java/lang/IllegalArgumentException" ∧ Q (-1000002) (S', t.2)) ∨ (E = "java/lang/IllegalStateException" ∧ Q (-1000003) (S', t.2)) ∨ (E = "java/lang/IndexOutOfBoundsException" ∧ Q (-1000001) (S', t.2)))
theorem c_L_itemWidth (l : Launch) (D : va_G) (K : Nat → ClassId) (E0 b0 : Nat) (B : Nat × Nat) (o : Nat) (a1 : Int32) (a2 : Int32) (t : LwS) (Q : Int32 → LwS → Prop) (h : w_L_itemWidth B o a1 a2 t Q) : MetR l yL_itemWidth (.codeWith yL_itemWidth cL_itemWidth 4 (some .int) [(0, 6, 7, 16), (0, 6, 11, 19), (0, 6, 15, 26)]) 13 [.ref o, .int a1, .int a2] Q D K E0 b0 B t := by
  obtain ⟨hk, h⟩ := h
  refine gr_startH (by decide) rfl (Nat.le_of_ble_eq_true rfl) (fun p e s m args below meth c C htab Em => ?_)
  refine gr_aloadn C 0 0 dL_itemWidth_0 rfl rfl ?_
  refine gr_iloadn C 1 1 dL_itemWidth_1 rfl rfl ?_
  refine gr_iloadn C 2 2 dL_itemWidth_2 rfl rfl ?_
  refine gr_room (fun hr => ?_)
  refine gr_call C (y := yX11_itemWidth) (as := [.int a1, .int a2]) (by exact ⟨Nat.le_of_ble_eq_true rfl, Nat.le_of_ble_eq_true rfl⟩) B ⟨Nat.le_refl _, Nat.le_refl _⟩ hr (c_X11_itemWidth l D K E0 B _ o a1 a2 t.1 _ _ h) hk_X11_itemWidth rfl vl_L_137 kc_X11_itemWidth (isC_of hk (by decide)) dL_itemWidth_3 (Nat.le_of_ble_eq_true rfl) ?hx ?hn
  case hx =>
    rintro E S' hx _ _
    rcases hx with ⟨rfl, h⟩ | ⟨rfl, h⟩ | ⟨rfl, h⟩
    · refine gr_catch C htab [] (0, 6, 7, 16) [(0, 6, 11, 19), (0, 6, 15, 26)] rfl (fun _ h9 => absurd h9 List.not_mem_nil) (by decide +kernel) (by decide) (by decide) v_i577 n_i590 (fun q => ?_)
      refine gr_astoren C 3 [(3, .ref q), (0, .ref o), (1, .int a1), (2, .int a2)] dL_itemWidth_7 rfl (by decide) rfl ?_
      refine gr_ldc C (-1000002) v_i617 dL_itemWidth_8 ?_
      exact gr_iret C Em dL_itemWidth_10 h
    · refine gr_catch C htab [(0, 6, 7, 16)] (0, 6, 11, 19) [(0, 6, 15, 26)] rfl (List.forall_mem_cons.mpr ⟨⟨by decide, "java/lang/IllegalArgumentException", v_i577, by decide +kernel, by decide +kernel⟩, fun _ h9 => absurd h9 List.not_mem_nil⟩) (by decide +kernel) (by decide) (by decide) v_i632 n_i649 (fun q => ?_)
      refine gr_astoren C 3 [(3, .ref q), (0, .ref o), (1, .int a1), (2, .int a2)] dL_itemWidth_11 rfl (by decide) rfl ?_
      refine gr_ldc C (-1000003) v_i908 dL_itemWidth_12 ?_
      exact gr_iret C Em dL_itemWidth_14 h
    · refine gr_catch C htab [(0, 6, 7, 16), (0, 6, 11, 19)] (0, 6, 15, 26) [] rfl (List.forall_mem_cons.mpr ⟨⟨by decide, "java/lang/IllegalArgumentException", v_i577, by decide +kernel, by decide +kernel⟩, List.forall_mem_cons.mpr ⟨⟨by decide, "java/lang/IllegalStateException", v_i632, by decide +kernel, by decide +kernel⟩, fun _ h9 => absurd h9 List.not_mem_nil⟩⟩) (by decide +kernel) (by decide) (by decide) v_i457 n_i467 (fun q => ?_)
      refine gr_astoren C 3 [(3, .ref q), (0, .ref o), (1, .int a1), (2, .int a2)] dL_itemWidth_15 rfl (by decide) rfl ?_
      refine gr_ldc C (-1000001) v_i533 dL_itemWidth_16 ?_
      exact gr_iret C Em dL_itemWidth_18 h
  case hn =>
    rintro v S' ⟨r, rfl, h⟩ _ _ _
    exact gr_iret C Em dL_itemWidth_6 h
def w_L_lines (B : Nat × Nat) (o : Nat) (a1 : Int32) (t : LwS) (Q : Int32 → LwS → Prop) : Prop := kdC t.1 o = 14 ∧ w_X11_lines B o a1 t.1 (fun r S' => Q r (S', t.2)) (fun E S' => (E = "java/lang/IllegalArgumentException" ∧ Q (-1000002) (S', t.2)) ∨ (E = "java/lang/IllegalStateException" ∧ Q (-1000003) (S', t.2)))
theorem c_L_lines (l : Launch) (D : va_G) (K : Nat → ClassId) (E0 b0 : Nat) (B : Nat × Nat) (o : Nat) (a1 : Int32) (t : LwS) (Q : Int32 → LwS → Prop) (h : w_L_lines B o a1 t Q) : MetR l yL_lines (.codeWith yL_lines cL_lines 3 (some .int) [(0, 5, 6, 16), (0, 5, 10, 19)]) 13 [.ref o, .int a1] Q D K E0 b0 B t := by
  obtain ⟨hk, h⟩ := h
  refine gr_startH (by decide) rfl (Nat.le_of_ble_eq_true rfl) (fun p e s m args below meth c C htab Em => ?_)
  refine gr_aloadn C 0 0 dL_lines_0 rfl rfl ?_
  refine gr_iloadn C 1 1 dL_lines_1 rfl rfl ?_
  refine gr_room (fun hr => ?_)
  refine gr_call C (y := yX11_lines) (as := [.int a1]) (by exact ⟨Nat.le_of_ble_eq_true rfl, Nat.le_of_ble_eq_true rfl⟩) B ⟨Nat.le_refl _, Nat.le_refl _⟩ hr (c_X11_lines l D K E0 B _ o a1 t.1 _ _ h) hk_X11_lines rfl vl_L_140 kc_X11_lines (isC_of hk (by decide)) dL_lines_2 (Nat.le_of_ble_eq_true rfl) ?hx ?hn
  case hx =>
    rintro E S' hx _ _
    rcases hx with ⟨rfl, h⟩ | ⟨rfl, h⟩
    · refine gr_catch C htab [] (0, 5, 6, 16) [(0, 5, 10, 19)] rfl (fun _ h9 => absurd h9 List.not_mem_nil) (by decide +kernel) (by decide) (by decide) v_i577 n_i590 (fun q => ?_)
      refine gr_astoren C 2 [(2, .ref q), (0, .ref o), (1, .int a1)] dL_lines_6 rfl (by decide) rfl ?_
      refine gr_ldc C (-1000002) v_i617 dL_lines_7 ?_
      exact gr_iret C Em dL_lines_9 h
    · refine gr_catch C htab [(0, 5, 6, 16)] (0, 5, 10, 19) [] rfl (List.forall_mem_cons.mpr ⟨⟨by decide, "java/lang/IllegalArgumentException", v_i577, by decide +kernel, by decide +kernel⟩, fun _ h9 => absurd h9 List.not_mem_nil⟩) (by decide +kernel) (by decide) (by decide) v_i632 n_i649 (fun q => ?_)
      refine gr_astoren C 2 [(2, .ref q), (0, .ref o), (1, .int a1)] dL_lines_10 rfl (by decide) rfl ?_
      refine gr_ldc C (-1000003) v_i908 dL_lines_11 ?_
      exact gr_iret C Em dL_lines_13 h
  case hn =>
    rintro v S' ⟨r, rfl, h⟩ _ _ _
    exact gr_iret C Em dL_lines_5 h
def w_L_firstItem (B : Nat × Nat) (o : Nat) (a1 : Int32) (a2 : Int32) (t : LwS) (Q : Int32 → LwS → Prop) : Prop := kdC t.1 o = 14 ∧ w_X11_firstItem B o a1 a2 t.1 (fun r S' => Q r (S', t.2)) (fun E S' => (E = "java/lang/IllegalArgumentException" ∧ Q (-1000002) (S', t.2)) ∨ (E = "java/lang/IllegalStateException" ∧ Q (-1000003) (S', t.2)) ∨ (E = "java/lang/IndexOutOfBoundsException" ∧ Q (-1000001) (S', t.2)))
theorem c_L_firstItem (l : Launch) (D : va_G) (K : Nat → ClassId) (E0 b0 : Nat) (B : Nat × Nat) (o : Nat) (a1 : Int32) (a2 : Int32) (t : LwS) (Q : Int32 → LwS → Prop) (h : w_L_firstItem B o a1 a2 t Q) : MetR l yL_firstItem (.codeWith yL_firstItem cL_firstItem 4 (some .int) [(0, 6, 7, 16), (0, 6, 11, 19), (0, 6, 15, 26)]) 13 [.ref o, .int a1, .int a2] Q D K E0 b0 B t := by
  obtain ⟨hk, h⟩ := h
  refine gr_startH (by decide) rfl (Nat.le_of_ble_eq_true rfl) (fun p e s m args below meth c C htab Em => ?_)
  refine gr_aloadn C 0 0 dL_firstItem_0 rfl rfl ?_
  refine gr_iloadn C 1 1 dL_firstItem_1 rfl rfl ?_
  refine gr_iloadn C 2 2 dL_firstItem_2 rfl rfl ?_
  refine gr_room (fun hr => ?_)
  refine gr_call C (y := yX11_firstItem) (as := [.int a1, .int a2]) (by exact ⟨Nat.le_of_ble_eq_true rfl, Nat.le_of_ble_eq_true rfl⟩) B ⟨Nat.le_refl _, Nat.le_refl _⟩ hr (c_X11_firstItem l D K E0 B _ o a1 a2 t.1 _ _ h) hk_X11_firstItem rfl vl_L_143 kc_X11_firstItem (isC_of hk (by decide)) dL_firstItem_3 (Nat.le_of_ble_eq_true rfl) ?hx ?hn
  case hx =>
    rintro E S' hx _ _
    rcases hx with ⟨rfl, h⟩ | ⟨rfl, h⟩ | ⟨rfl, h⟩
    · refine gr_catch C htab [] (0, 6, 7, 16) [(0, 6, 11, 19), (0, 6, 15, 26)] rfl (fun _ h9 => absurd h9 List.not_mem_nil) (by decide +kernel) (by decide) (by decide) v_i577 n_i590 (fun q => ?_)
      refine gr_astoren C 3 [(3, .ref q), (0, .ref o), (1, .int a1), (2, .int a2)] dL_firstItem_7 rfl (by decide) rfl ?_
      refine gr_ldc C (-1000002) v_i617 dL_firstItem_8 ?_
      exact gr_iret C Em dL_firstItem_10 h
    · refine gr_catch C htab [(0, 6, 7, 16)] (0, 6, 11, 19) [(0, 6, 15, 26)] rfl (List.forall_mem_cons.mpr ⟨⟨by decide, "java/lang/IllegalArgumentException", v_i577, by decide +kernel, by decide +kernel⟩, fun _ h9 => absurd h9 List.not_mem_nil⟩) (by decide +kernel) (by decide) (by decide) v_i632 n_i649 (fun q => ?_)
      refine gr_astoren C 3 [(3, .ref q), (0, .ref o), (1, .int a1), (2, .int a2)] dL_firstItem_11 rfl (by decide) rfl ?_
      refine gr_ldc C (-1000003) v_i908 dL_firstItem_12 ?_
      exact gr_iret C Em dL_firstItem_14 h
    · refine gr_catch C htab [(0, 6, 7, 16), (0, 6, 11, 19)] (0, 6, 15, 26) [] rfl (List.forall_mem_cons.mpr ⟨⟨by decide, "java/lang/IllegalArgumentException", v_i577, by decide +kernel, by decide +kernel⟩, List.forall_mem_cons.mpr ⟨⟨by decide, "java/lang/IllegalStateException", v_i632, by decide +kernel, by decide +kernel⟩, fun _ h9 => absurd h9 List.not_mem_nil⟩⟩) (by decide +kernel) (by decide) (by decide) v_i457 n_i467 (fun q => ?_)
      refine gr_astoren C 3 [(3, .ref q), (0, .ref o), (1, .int a1), (2, .int a2)] dL_firstItem_15 rfl (by decide) rfl ?_
      refine gr_ldc C (-1000001) v_i533 dL_firstItem_16 ?_
      exact gr_iret C Em dL_firstItem_18 h
  case hn =>
    rintro v S' ⟨r, rfl, h⟩ _ _ _
    exact gr_iret C Em dL_firstItem_6 h
def w_L_badness (B : Nat × Nat) (o : Nat) (a1 : Int32) (t : LwS) (Q : Int32 → LwS → Prop) : Prop := kdC t.1 o = 14 ∧ w_X11_badness B o a1 t.1 (fun r S' => Q r (S', t.2)) (fun E S' => (E = "java/lang/IllegalArgumentException" ∧ Q (-1000002) (S', t.2)) ∨ (E = "java/lang/IllegalStateException" ∧ Q (-1000003) (S', t.2)))
theorem c_L_badness (l : Launch) (D : va_G) (K : Nat → ClassId) (E0 b0 : Nat) (B : Nat × Nat) (o : Nat) (a1 : Int32) (t : LwS) (Q : Int32 → LwS → Prop) (h : w_L_badness B o a1 t Q) : MetR l yL_badness (.codeWith yL_badness cL_badness 3 (some .int) [(0, 5, 6, 16), (0, 5, 10, 19)]) 13 [.ref o, .int a1] Q D K E0 b0 B t := by
  obtain ⟨hk, h⟩ := h
  refine gr_startH (by decide) rfl (Nat.le_of_ble_eq_true rfl) (fun p e s m args below meth c C htab Em => ?_)
  refine gr_aloadn C 0 0 dL_badness_0 rfl rfl ?_
  refine gr_iloadn C 1 1 dL_badness_1 rfl rfl ?_
  refine gr_room (fun hr => ?_)
  refine gr_call C (y := yX11_badness) (as := [.int a1]) (by exact ⟨Nat.le_of_ble_eq_true rfl, Nat.le_of_ble_eq_true rfl⟩) B ⟨Nat.le_refl _, Nat.le_refl _⟩ hr (c_X11_badness l D K E0 B _ o a1 t.1 _ _ h) hk_X11_badness rfl vl_L_146 kc_X11_badness (isC_of hk (by decide)) dL_badness_2 (Nat.le_of_ble_eq_true rfl) ?hx ?hn
  case hx =>
    rintro E S' hx _ _
    rcases hx with ⟨rfl, h⟩ | ⟨rfl, h⟩
    · refine gr_catch C htab [] (0, 5, 6, 16) [(0, 5, 10, 19)] rfl (fun _ h9 => absurd h9 List.not_mem_nil) (by decide +kernel) (by decide) (by decide) v_i577 n_i590 (fun q => ?_)
      refine gr_astoren C 2 [(2, .ref q), (0, .ref o), (1, .int a1)] dL_badness_6 rfl (by decide) rfl ?_
      refine gr_ldc C (-1000002) v_i617 dL_badness_7 ?_
      exact gr_iret C Em dL_badness_9 h
    · refine gr_catch C htab [(0, 5, 6, 16)] (0, 5, 10, 19) [] rfl (List.forall_mem_cons.mpr ⟨⟨by decide, "java/lang/IllegalArgumentException", v_i577, by decide +kernel, by decide +kernel⟩, fun _ h9 => absurd h9 List.not_mem_nil⟩) (by decide +kernel) (by decide) (by decide) v_i632 n_i649 (fun q => ?_)
      refine gr_astoren C 2 [(2, .ref q), (0, .ref o), (1, .int a1)] dL_badness_10 rfl (by decide) rfl ?_
      refine gr_ldc C (-1000003) v_i908 dL_badness_11 ?_
      exact gr_iret C Em dL_badness_13 h
  case hn =>
    rintro v S' ⟨r, rfl, h⟩ _ _ _
    exact gr_iret C Em dL_badness_5 h
def w_L_pages (B : Nat × Nat) (o : Nat) (a1 : Int32) (t : LwS) (Q : Int32 → LwS → Prop) : Prop := kdC t.1 o = 14 ∧ w_X11_pages B o a1 t.1 (fun r S' => Q r (S', t.2)) (fun E S' => (E = "java/lang/IllegalArgumentException" ∧ Q (-1000002) (S', t.2)) ∨ (E = "java/lang/IllegalStateException" ∧ Q (-1000003) (S', t.2)))
theorem c_L_pages (l : Launch) (D : va_G) (K : Nat → ClassId) (E0 b0 : Nat) (B : Nat × Nat) (o : Nat) (a1 : Int32) (t : LwS) (Q : Int32 → LwS → Prop) (h : w_L_pages B o a1 t Q) : MetR l yL_pages (.codeWith yL_pages cL_pages 3 (some .int) [(0, 5, 6, 16), (0, 5, 10, 19)]) 13 [.ref o, .int a1] Q D K E0 b0 B t := by
  obtain ⟨hk, h⟩ := h
  refine gr_startH (by decide) rfl (Nat.le_of_ble_eq_true rfl) (fun p e s m args below meth c C htab Em => ?_)
  refine gr_aloadn C 0 0 dL_pages_0 rfl rfl ?_
  refine gr_iloadn C 1 1 dL_pages_1 rfl rfl ?_
  refine gr_room (fun hr => ?_)
  refine gr_call C (y := yX11_pages) (as := [.int a1]) (by exact ⟨Nat.le_of_ble_eq_true rfl, Nat.le_of_ble_eq_true rfl⟩) B ⟨Nat.le_refl _, Nat.le_refl _⟩ hr (c_X11_pages l D K E0 B _ o a1 t.1 _ _ h) hk_X11_pages rfl vl_L_149 kc_X11_pages (isC_of hk (by decide)) dL_pages_2 (Nat.le_of_ble_eq_true rfl) ?hx ?hn
  case hx =>
    rintro E S' hx _ _
    rcases hx with ⟨rfl, h⟩ | ⟨rfl, h⟩
    · refine gr_catch C htab [] (0, 5, 6, 16) [(0, 5, 10, 19)] rfl (fun _ h9 => absurd h9 List.not_mem_nil) (by decide +kernel) (by decide) (by decide) v_i577 n_i590 (fun q => ?_)
      refine gr_astoren C 2 [(2, .ref q), (0, .ref o), (1, .int a1)] dL_pages_6 rfl (by decide) rfl ?_
      refine gr_ldc C (-1000002) v_i617 dL_pages_7 ?_
      exact gr_iret C Em dL_pages_9 h
    · refine gr_catch C htab [(0, 5, 6, 16)] (0, 5, 10, 19) [] rfl (List.forall_mem_cons.mpr ⟨⟨by decide, "java/lang/IllegalArgumentException", v_i577, by decide +kernel, by decide +kernel⟩, fun _ h9 => absurd h9 List.not_mem_nil⟩) (by decide +kernel) (by decide) (by decide) v_i632 n_i649 (fun q => ?_)
      refine gr_astoren C 2 [(2, .ref q), (0, .ref o), (1, .int a1)] dL_pages_10 rfl (by decide) rfl ?_
      refine gr_ldc C (-1000003) v_i908 dL_pages_11 ?_
      exact gr_iret C Em dL_pages_13 h
  case hn =>
    rintro v S' ⟨r, rfl, h⟩ _ _ _
    exact gr_iret C Em dL_pages_5 h
def w_L_pageLines (B : Nat × Nat) (o : Nat) (a1 : Int32) (a2 : Int32) (t : LwS) (Q : Int32 → LwS → Prop) : Prop := kdC t.1 o = 14 ∧ w_X11_pageLines B o a1 a2 t.1 (fun r S' => Q r (S', t.2)) (fun E S' => (E = "java/lang/IllegalArgumentException" ∧ Q (-1000002) (S', t.2)) ∨ (E = "java/lang/IllegalStateException" ∧ Q (-1000003) (S', t.2)) ∨ (E = "java/lang/IndexOutOfBoundsException" ∧ Q (-1000001) (S', t.2)))
theorem c_L_pageLines (l : Launch) (D : va_G) (K : Nat → ClassId) (E0 b0 : Nat) (B : Nat × Nat) (o : Nat) (a1 : Int32) (a2 : Int32) (t : LwS) (Q : Int32 → LwS → Prop) (h : w_L_pageLines B o a1 a2 t Q) : MetR l yL_pageLines (.codeWith yL_pageLines cL_pageLines 4 (some .int) [(0, 6, 7, 16), (0, 6, 11, 19), (0, 6, 15, 26)]) 13 [.ref o, .int a1, .int a2] Q D K E0 b0 B t := by
  obtain ⟨hk, h⟩ := h
  refine gr_startH (by decide) rfl (Nat.le_of_ble_eq_true rfl) (fun p e s m args below meth c C htab Em => ?_)
  refine gr_aloadn C 0 0 dL_pageLines_0 rfl rfl ?_
  refine gr_iloadn C 1 1 dL_pageLines_1 rfl rfl ?_
  refine gr_iloadn C 2 2 dL_pageLines_2 rfl rfl ?_
  refine gr_room (fun hr => ?_)
  refine gr_call C (y := yX11_pageLines) (as := [.int a1, .int a2]) (by exact ⟨Nat.le_of_ble_eq_true rfl, Nat.le_of_ble_eq_true rfl⟩) B ⟨Nat.le_refl _, Nat.le_refl _⟩ hr (c_X11_pageLines l D K E0 B _ o a1 a2 t.1 _ _ h) hk_X11_pageLines rfl vl_L_152 kc_X11_pageLines (isC_of hk (by decide)) dL_pageLines_3 (Nat.le_of_ble_eq_true rfl) ?hx ?hn
  case hx =>
    rintro E S' hx _ _
    rcases hx with ⟨rfl, h⟩ | ⟨rfl, h⟩ | ⟨rfl, h⟩
    · refine gr_catch C htab [] (0, 6, 7, 16) [(0, 6, 11, 19), (0, 6, 15, 26)] rfl (fun _ h9 => absurd h9 List.not_mem_nil) (by decide +kernel) (by decide) (by decide) v_i577 n_i590 (fun q => ?_)
      refine gr_astoren C 3 [(3, .ref q), (0, .ref o), (1, .int a1), (2, .int a2)] dL_pageLines_7 rfl (by decide) rfl ?_
      refine gr_ldc C (-1000002) v_i617 dL_pageLines_8 ?_
      exact gr_iret C Em dL_pageLines_10 h
    · refine gr_catch C htab [(0, 6, 7, 16)] (0, 6, 11, 19) [(0, 6, 15, 26)] rfl (List.forall_mem_cons.mpr ⟨⟨by decide, "java/lang/IllegalArgumentException", v_i577, by decide +kernel, by decide +kernel⟩, fun _ h9 => absurd h9 List.not_mem_nil⟩) (by decide +kernel) (by decide) (by decide) v_i632 n_i649 (fun q => ?_)
      refine gr_astoren C 3 [(3, .ref q), (0, .ref o), (1, .int a1), (2, .int a2)] dL_pageLines_11 rfl (by decide) rfl ?_
      refine gr_ldc C (-1000003) v_i908 dL_pageLines_12 ?_
      exact gr_iret C Em dL_pageLines_14 h
    · refine gr_catch C htab [(0, 6, 7, 16), (0, 6, 11, 19)] (0, 6, 15, 26) [] rfl (List.forall_mem_cons.mpr ⟨⟨by decide, "java/lang/IllegalArgumentException", v_i577, by decide +kernel, by decide +kernel⟩, List.forall_mem_cons.mpr ⟨⟨by decide, "java/lang/IllegalStateException", v_i632, by decide +kernel, by decide +kernel⟩, fun _ h9 => absurd h9 List.not_mem_nil⟩⟩) (by decide +kernel) (by decide) (by decide) v_i457 n_i467 (fun q => ?_)
      refine gr_astoren C 3 [(3, .ref q), (0, .ref o), (1, .int a1), (2, .int a2)] dL_pageLines_15 rfl (by decide) rfl ?_
      refine gr_ldc C (-1000001) v_i533 dL_pageLines_16 ?_
      exact gr_iret C Em dL_pageLines_18 h
  case hn =>
    rintro v S' ⟨r, rfl, h⟩ _ _ _
    exact gr_iret C Em dL_pageLines_6 h
def w_L_pageOf (B : Nat × Nat) (o : Nat) (a1 : Int32) (a2 : Int32) (t : LwS) (Q : Int32 → LwS → Prop) : Prop := kdC t.1 o = 14 ∧ w_X11_pageOf B o a1 a2 t.1 (fun r S' => Q r (S', t.2)) (fun E S' => (E = "java/lang/IllegalArgumentException" ∧ Q (-1000002) (S', t.2)) ∨ (E = "java/lang/IllegalStateException" ∧ Q (-1000003) (S', t.2)) ∨ (E = "java/lang/IndexOutOfBoundsException" ∧ Q (-1000001) (S', t.2)))
theorem c_L_pageOf (l : Launch) (D : va_G) (K : Nat → ClassId) (E0 b0 : Nat) (B : Nat × Nat) (o : Nat) (a1 : Int32) (a2 : Int32) (t : LwS) (Q : Int32 → LwS → Prop) (h : w_L_pageOf B o a1 a2 t Q) : MetR l yL_pageOf (.codeWith yL_pageOf cL_pageOf 4 (some .int) [(0, 6, 7, 16), (0, 6, 11, 19), (0, 6, 15, 26)]) 13 [.ref o, .int a1, .int a2] Q D K E0 b0 B t := by
  obtain ⟨hk, h⟩ := h
  refine gr_startH (by decide) rfl (Nat.le_of_ble_eq_true rfl) (fun p e s m args below meth c C htab Em => ?_)
  refine gr_aloadn C 0 0 dL_pageOf_0 rfl rfl ?_
  refine gr_iloadn C 1 1 dL_pageOf_1 rfl rfl ?_
  refine gr_iloadn C 2 2 dL_pageOf_2 rfl rfl ?_
  refine gr_room (fun hr => ?_)
  refine gr_call C (y := yX11_pageOf) (as := [.int a1, .int a2]) (by exact ⟨Nat.le_of_ble_eq_true rfl, Nat.le_of_ble_eq_true rfl⟩) B ⟨Nat.le_refl _, Nat.le_refl _⟩ hr (c_X11_pageOf l D K E0 B _ o a1 a2 t.1 _ _ h) hk_X11_pageOf rfl vl_L_155 kc_X11_pageOf (isC_of hk (by decide)) dL_pageOf_3 (Nat.le_of_ble_eq_true rfl) ?hx ?hn
  case hx =>
    rintro E S' hx _ _
    rcases hx with ⟨rfl, h⟩ | ⟨rfl, h⟩ | ⟨rfl, h⟩
    · refine gr_catch C htab [] (0, 6, 7, 16) [(0, 6, 11, 19), (0, 6, 15, 26)] rfl (fun _ h9 => absurd h9 List.not_mem_nil) (by decide +kernel) (by decide) (by decide) v_i577 n_i590 (fun q => ?_)
      refine gr_astoren C 3 [(3, .ref q), (0, .ref o), (1, .int a1), (2, .int a2)] dL_pageOf_7 rfl (by decide) rfl ?_
      refine gr_ldc C (-1000002) v_i617 dL_pageOf_8 ?_
      exact gr_iret C Em dL_pageOf_10 h
    · refine gr_catch C htab [(0, 6, 7, 16)] (0, 6, 11, 19) [(0, 6, 15, 26)] rfl (List.forall_mem_cons.mpr ⟨⟨by decide, "java/lang/IllegalArgumentException", v_i577, by decide +kernel, by decide +kernel⟩, fun _ h9 => absurd h9 List.not_mem_nil⟩) (by decide +kernel) (by decide) (by decide) v_i632 n_i649 (fun q => ?_)
      refine gr_astoren C 3 [(3, .ref q), (0, .ref o), (1, .int a1), (2, .int a2)] dL_pageOf_11 rfl (by decide) rfl ?_
      refine gr_ldc C (-1000003) v_i908 dL_pageOf_12 ?_
      exact gr_iret C Em dL_pageOf_14 h
    · refine gr_catch C htab [(0, 6, 7, 16), (0, 6, 11, 19)] (0, 6, 15, 26) [] rfl (List.forall_mem_cons.mpr ⟨⟨by decide, "java/lang/IllegalArgumentException", v_i577, by decide +kernel, by decide +kernel⟩, List.forall_mem_cons.mpr ⟨⟨by decide, "java/lang/IllegalStateException", v_i632, by decide +kernel, by decide +kernel⟩, fun _ h9 => absurd h9 List.not_mem_nil⟩⟩) (by decide +kernel) (by decide) (by decide) v_i457 n_i467 (fun q => ?_)
      refine gr_astoren C 3 [(3, .ref q), (0, .ref o), (1, .int a1), (2, .int a2)] dL_pageOf_15 rfl (by decide) rfl ?_
      refine gr_ldc C (-1000001) v_i533 dL_pageOf_16 ?_
      exact gr_iret C Em dL_pageOf_18 h
  case hn =>
    rintro v S' ⟨r, rfl, h⟩ _ _ _
    exact gr_iret C Em dL_pageOf_6 h
def w_L_pageTurns (B : Nat × Nat) (o : Nat) (a1 : Int32) (t : LwS) (Q : Int32 → LwS → Prop) : Prop := kdC t.1 o = 14 ∧ w_X11_pageTurns B o a1 t.1 (fun r S' => Q r (S', t.2)) (fun E S' => (E = "java/lang/IllegalArgumentException" ∧ Q (-1000002) (S', t.2)) ∨ (E = "java/lang/IllegalStateException" ∧ Q (-1000003) (S', t.2)))
theorem c_L_pageTurns (l : Launch) (D : va_G) (K : Nat → ClassId) (E0 b0 : Nat) (B : Nat × Nat) (o : Nat) (a1 : Int32) (t : LwS) (Q : Int32 → LwS → Prop) (h : w_L_pageTurns B o a1 t Q) : MetR l yL_pageTurns (.codeWith yL_pageTurns cL_pageTurns 3 (some .int) [(0, 5, 6, 16), (0, 5, 10, 19)]) 13 [.ref o, .int a1] Q D K E0 b0 B t := by
  obtain ⟨hk, h⟩ := h
  refine gr_startH (by decide) rfl (Nat.le_of_ble_eq_true rfl) (fun p e s m args below meth c C htab Em => ?_)
  refine gr_aloadn C 0 0 dL_pageTurns_0 rfl rfl ?_
  refine gr_iloadn C 1 1 dL_pageTurns_1 rfl rfl ?_
  refine gr_room (fun hr => ?_)
  refine gr_call C (y := yX11_pageTurns) (as := [.int a1]) (by exact ⟨Nat.le_of_ble_eq_true rfl, Nat.le_of_ble_eq_true rfl⟩) B ⟨Nat.le_refl _, Nat.le_refl _⟩ hr (c_X11_pageTurns l D K E0 B _ o a1 t.1 _ _ h) hk_X11_pageTurns rfl vl_L_158 kc_X11_pageTurns (isC_of hk (by decide)) dL_pageTurns_2 (Nat.le_of_ble_eq_true rfl) ?hx ?hn
  case hx =>
    rintro E S' hx _ _
    rcases hx with ⟨rfl, h⟩ | ⟨rfl, h⟩
    · refine gr_catch C htab [] (0, 5, 6, 16) [(0, 5, 10, 19)] rfl (fun _ h9 => absurd h9 List.not_mem_nil) (by decide +kernel) (by decide) (by decide) v_i577 n_i590 (fun q => ?_)
      refine gr_astoren C 2 [(2, .ref q), (0, .ref o), (1, .int a1)] dL_pageTurns_6 rfl (by decide) rfl ?_
      refine gr_ldc C (-1000002) v_i617 dL_pageTurns_7 ?_
      exact gr_iret C Em dL_pageTurns_9 h
    · refine gr_catch C htab [(0, 5, 6, 16)] (0, 5, 10, 19) [] rfl (List.forall_mem_cons.mpr ⟨⟨by decide, "java/lang/IllegalArgumentException", v_i577, by decide +kernel, by decide +kernel⟩, fun _ h9 => absurd h9 List.not_mem_nil⟩) (by decide +kernel) (by decide) (by decide) v_i632 n_i649 (fun q => ?_)
      refine gr_astoren C 2 [(2, .ref q), (0, .ref o), (1, .int a1)] dL_pageTurns_10 rfl (by decide) rfl ?_
      refine gr_ldc C (-1000003) v_i908 dL_pageTurns_11 ?_
      exact gr_iret C Em dL_pageTurns_13 h
  case hn =>
    rintro v S' ⟨r, rfl, h⟩ _ _ _
    exact gr_iret C Em dL_pageTurns_5 h
def w_L_turnBar (B : Nat × Nat) (o : Nat) (a1 : Int32) (a2 : Int32) (t : LwS) (Q : Int32 → LwS → Prop) : Prop := kdC t.1 o = 14 ∧ w_X11_turnBar B o a1 a2 t.1 (fun r S' => Q r (S', t.2)) (fun E S' => (E = "java/lang/IllegalArgumentException" ∧ Q (-1000002) (S', t.2)) ∨ (E = "java/lang/IllegalStateException" ∧ Q (-1000003) (S', t.2)) ∨ (E = "java/lang/IndexOutOfBoundsException" ∧ Q (-1000001) (S', t.2)))
theorem c_L_turnBar (l : Launch) (D : va_G) (K : Nat → ClassId) (E0 b0 : Nat) (B : Nat × Nat) (o : Nat) (a1 : Int32) (a2 : Int32) (t : LwS) (Q : Int32 → LwS → Prop) (h : w_L_turnBar B o a1 a2 t Q) : MetR l yL_turnBar (.codeWith yL_turnBar cL_turnBar 4 (some .int) [(0, 6, 7, 16), (0, 6, 11, 19), (0, 6, 15, 26)]) 13 [.ref o, .int a1, .int a2] Q D K E0 b0 B t := by
  obtain ⟨hk, h⟩ := h
  refine gr_startH (by decide) rfl (Nat.le_of_ble_eq_true rfl) (fun p e s m args below meth c C htab Em => ?_)
  refine gr_aloadn C 0 0 dL_turnBar_0 rfl rfl ?_
  refine gr_iloadn C 1 1 dL_turnBar_1 rfl rfl ?_
  refine gr_iloadn C 2 2 dL_turnBar_2 rfl rfl ?_
  refine gr_room (fun hr => ?_)
  refine gr_call C (y := yX11_turnBar) (as := [.int a1, .int a2]) (by exact ⟨Nat.le_of_ble_eq_true rfl, Nat.le_of_ble_eq_true rfl⟩) B ⟨Nat.le_refl _, Nat.le_refl _⟩ hr (c_X11_turnBar l D K E0 B _ o a1 a2 t.1 _ _ h) hk_X11_turnBar rfl vl_L_161 kc_X11_turnBar (isC_of hk (by decide)) dL_turnBar_3 (Nat.le_of_ble_eq_true rfl) ?hx ?hn
  case hx =>
    rintro E S' hx _ _
    rcases hx with ⟨rfl, h⟩ | ⟨rfl, h⟩ | ⟨rfl, h⟩
    · refine gr_catch C htab [] (0, 6, 7, 16) [(0, 6, 11, 19), (0, 6, 15, 26)] rfl (fun _ h9 => absurd h9 List.not_mem_nil) (by decide +kernel) (by decide) (by decide) v_i577 n_i590 (fun q => ?_)
      refine gr_astoren C 3 [(3, .ref q), (0, .ref o), (1, .int a1), (2, .int a2)] dL_turnBar_7 rfl (by decide) rfl ?_
      refine gr_ldc C (-1000002) v_i617 dL_turnBar_8 ?_
      exact gr_iret C Em dL_turnBar_10 h
    · refine gr_catch C htab [(0, 6, 7, 16)] (0, 6, 11, 19) [(0, 6, 15, 26)] rfl (List.forall_mem_cons.mpr ⟨⟨by decide, "java/lang/IllegalArgumentException", v_i577, by decide +kernel, by decide +kernel⟩, fun _ h9 => absurd h9 List.not_mem_nil⟩) (by decide +kernel) (by decide) (by decide) v_i632 n_i649 (fun q => ?_)
      refine gr_astoren C 3 [(3, .ref q), (0, .ref o), (1, .int a1), (2, .int a2)] dL_turnBar_11 rfl (by decide) rfl ?_
      refine gr_ldc C (-1000003) v_i908 dL_turnBar_12 ?_
      exact gr_iret C Em dL_turnBar_14 h
    · refine gr_catch C htab [(0, 6, 7, 16), (0, 6, 11, 19)] (0, 6, 15, 26) [] rfl (List.forall_mem_cons.mpr ⟨⟨by decide, "java/lang/IllegalArgumentException", v_i577, by decide +kernel, by decide +kernel⟩, List.forall_mem_cons.mpr ⟨⟨by decide, "java/lang/IllegalStateException", v_i632, by decide +kernel, by decide +kernel⟩, fun _ h9 => absurd h9 List.not_mem_nil⟩⟩) (by decide +kernel) (by decide) (by decide) v_i457 n_i467 (fun q => ?_)
      refine gr_astoren C 3 [(3, .ref q), (0, .ref o), (1, .int a1), (2, .int a2)] dL_turnBar_15 rfl (by decide) rfl ?_
      refine gr_ldc C (-1000001) v_i533 dL_turnBar_16 ?_
      exact gr_iret C Em dL_turnBar_18 h
  case hn =>
    rintro v S' ⟨r, rfl, h⟩ _ _ _
    exact gr_iret C Em dL_turnBar_6 h
def w_L_turnTime (B : Nat × Nat) (o : Nat) (a1 : Int32) (a2 : Int32) (t : LwS) (Q : Int32 → LwS → Prop) : Prop := kdC t.1 o = 14 ∧ w_X11_turnTime B o a1 a2 t.1 (fun r S' => Q r (S', t.2)) (fun E S' => (E = "java/lang/IllegalArgumentException" ∧ Q (-1000002) (S', t.2)) ∨ (E = "java/lang/IllegalStateException" ∧ Q (-1000003) (S', t.2)) ∨ (E = "java/lang/IndexOutOfBoundsException" ∧ Q (-1000001) (S', t.2)))
theorem c_L_turnTime (l : Launch) (D : va_G) (K : Nat → ClassId) (E0 b0 : Nat) (B : Nat × Nat) (o : Nat) (a1 : Int32) (a2 : Int32) (t : LwS) (Q : Int32 → LwS → Prop) (h : w_L_turnTime B o a1 a2 t Q) : MetR l yL_turnTime (.codeWith yL_turnTime cL_turnTime 4 (some .int) [(0, 6, 7, 16), (0, 6, 11, 19), (0, 6, 15, 26)]) 13 [.ref o, .int a1, .int a2] Q D K E0 b0 B t := by
  obtain ⟨hk, h⟩ := h
  refine gr_startH (by decide) rfl (Nat.le_of_ble_eq_true rfl) (fun p e s m args below meth c C htab Em => ?_)
  refine gr_aloadn C 0 0 dL_turnTime_0 rfl rfl ?_
  refine gr_iloadn C 1 1 dL_turnTime_1 rfl rfl ?_
  refine gr_iloadn C 2 2 dL_turnTime_2 rfl rfl ?_
  refine gr_room (fun hr => ?_)
  refine gr_call C (y := yX11_turnTime) (as := [.int a1, .int a2]) (by exact ⟨Nat.le_of_ble_eq_true rfl, Nat.le_of_ble_eq_true rfl⟩) B ⟨Nat.le_refl _, Nat.le_refl _⟩ hr (c_X11_turnTime l D K E0 B _ o a1 a2 t.1 _ _ h) hk_X11_turnTime rfl vl_L_164 kc_X11_turnTime (isC_of hk (by decide)) dL_turnTime_3 (Nat.le_of_ble_eq_true rfl) ?hx ?hn
  case hx =>
    rintro E S' hx _ _
    rcases hx with ⟨rfl, h⟩ | ⟨rfl, h⟩ | ⟨rfl, h⟩
    · refine gr_catch C htab [] (0, 6, 7, 16) [(0, 6, 11, 19), (0, 6, 15, 26)] rfl (fun _ h9 => absurd h9 List.not_mem_nil) (by decide +kernel) (by decide) (by decide) v_i577 n_i590 (fun q => ?_)
      refine gr_astoren C 3 [(3, .ref q), (0, .ref o), (1, .int a1), (2, .int a2)] dL_turnTime_7 rfl (by decide) rfl ?_
      refine gr_ldc C (-1000002) v_i617 dL_turnTime_8 ?_
      exact gr_iret C Em dL_turnTime_10 h
    · refine gr_catch C htab [(0, 6, 7, 16)] (0, 6, 11, 19) [(0, 6, 15, 26)] rfl (List.forall_mem_cons.mpr ⟨⟨by decide, "java/lang/IllegalArgumentException", v_i577, by decide +kernel, by decide +kernel⟩, fun _ h9 => absurd h9 List.not_mem_nil⟩) (by decide +kernel) (by decide) (by decide) v_i632 n_i649 (fun q => ?_)
      refine gr_astoren C 3 [(3, .ref q), (0, .ref o), (1, .int a1), (2, .int a2)] dL_turnTime_11 rfl (by decide) rfl ?_
      refine gr_ldc C (-1000003) v_i908 dL_turnTime_12 ?_
      exact gr_iret C Em dL_turnTime_14 h
    · refine gr_catch C htab [(0, 6, 7, 16), (0, 6, 11, 19)] (0, 6, 15, 26) [] rfl (List.forall_mem_cons.mpr ⟨⟨by decide, "java/lang/IllegalArgumentException", v_i577, by decide +kernel, by decide +kernel⟩, List.forall_mem_cons.mpr ⟨⟨by decide, "java/lang/IllegalStateException", v_i632, by decide +kernel, by decide +kernel⟩, fun _ h9 => absurd h9 List.not_mem_nil⟩⟩) (by decide +kernel) (by decide) (by decide) v_i457 n_i467 (fun q => ?_)
      refine gr_astoren C 3 [(3, .ref q), (0, .ref o), (1, .int a1), (2, .int a2)] dL_turnTime_15 rfl (by decide) rfl ?_
      refine gr_ldc C (-1000001) v_i533 dL_turnTime_16 ?_
      exact gr_iret C Em dL_turnTime_18 h
  case hn =>
    rintro v S' ⟨r, rfl, h⟩ _ _ _
    exact gr_iret C Em dL_turnTime_6 h
def w_L_turnRest (B : Nat × Nat) (o : Nat) (a1 : Int32) (a2 : Int32) (t : LwS) (Q : Int32 → LwS → Prop) : Prop := kdC t.1 o = 14 ∧ w_X11_turnRest B o a1 a2 t.1 (fun r S' => Q r (S', t.2)) (fun E S' => (E = "java/lang/IllegalArgumentException" ∧ Q (-1000002) (S', t.2)) ∨ (E = "java/lang/IllegalStateException" ∧ Q (-1000003) (S', t.2)) ∨ (E = "java/lang/IndexOutOfBoundsException" ∧ Q (-1000001) (S', t.2)))
theorem c_L_turnRest (l : Launch) (D : va_G) (K : Nat → ClassId) (E0 b0 : Nat) (B : Nat × Nat) (o : Nat) (a1 : Int32) (a2 : Int32) (t : LwS) (Q : Int32 → LwS → Prop) (h : w_L_turnRest B o a1 a2 t Q) : MetR l yL_turnRest (.codeWith yL_turnRest cL_turnRest 4 (some .int) [(0, 6, 7, 16), (0, 6, 11, 19), (0, 6, 15, 26)]) 13 [.ref o, .int a1, .int a2] Q D K E0 b0 B t := by
  obtain ⟨hk, h⟩ := h
  refine gr_startH (by decide) rfl (Nat.le_of_ble_eq_true rfl) (fun p e s m args below meth c C htab Em => ?_)
  refine gr_aloadn C 0 0 dL_turnRest_0 rfl rfl ?_
  refine gr_iloadn C 1 1 dL_turnRest_1 rfl rfl ?_
  refine gr_iloadn C 2 2 dL_turnRest_2 rfl rfl ?_
  refine gr_room (fun hr => ?_)
  refine gr_call C (y := yX11_turnRest) (as := [.int a1, .int a2]) (by exact ⟨Nat.le_of_ble_eq_true rfl, Nat.le_of_ble_eq_true rfl⟩) B ⟨Nat.le_refl _, Nat.le_refl _⟩ hr (c_X11_turnRest l D K E0 B _ o a1 a2 t.1 _ _ h) hk_X11_turnRest rfl vl_L_167 kc_X11_turnRest (isC_of hk (by decide)) dL_turnRest_3 (Nat.le_of_ble_eq_true rfl) ?hx ?hn
  case hx =>
    rintro E S' hx _ _
    rcases hx with ⟨rfl, h⟩ | ⟨rfl, h⟩ | ⟨rfl, h⟩
    · refine gr_catch C htab [] (0, 6, 7, 16) [(0, 6, 11, 19), (0, 6, 15, 26)] rfl (fun _ h9 => absurd h9 List.not_mem_nil) (by decide +kernel) (by decide) (by decide) v_i577 n_i590 (fun q => ?_)
      refine gr_astoren C 3 [(3, .ref q), (0, .ref o), (1, .int a1), (2, .int a2)] dL_turnRest_7 rfl (by decide) rfl ?_
      refine gr_ldc C (-1000002) v_i617 dL_turnRest_8 ?_
      exact gr_iret C Em dL_turnRest_10 h
    · refine gr_catch C htab [(0, 6, 7, 16)] (0, 6, 11, 19) [(0, 6, 15, 26)] rfl (List.forall_mem_cons.mpr ⟨⟨by decide, "java/lang/IllegalArgumentException", v_i577, by decide +kernel, by decide +kernel⟩, fun _ h9 => absurd h9 List.not_mem_nil⟩) (by decide +kernel) (by decide) (by decide) v_i632 n_i649 (fun q => ?_)
      refine gr_astoren C 3 [(3, .ref q), (0, .ref o), (1, .int a1), (2, .int a2)] dL_turnRest_11 rfl (by decide) rfl ?_
      refine gr_ldc C (-1000003) v_i908 dL_turnRest_12 ?_
      exact gr_iret C Em dL_turnRest_14 h
    · refine gr_catch C htab [(0, 6, 7, 16), (0, 6, 11, 19)] (0, 6, 15, 26) [] rfl (List.forall_mem_cons.mpr ⟨⟨by decide, "java/lang/IllegalArgumentException", v_i577, by decide +kernel, by decide +kernel⟩, List.forall_mem_cons.mpr ⟨⟨by decide, "java/lang/IllegalStateException", v_i632, by decide +kernel, by decide +kernel⟩, fun _ h9 => absurd h9 List.not_mem_nil⟩⟩) (by decide +kernel) (by decide) (by decide) v_i457 n_i467 (fun q => ?_)
      refine gr_astoren C 3 [(3, .ref q), (0, .ref o), (1, .int a1), (2, .int a2)] dL_turnRest_15 rfl (by decide) rfl ?_
      refine gr_ldc C (-1000001) v_i533 dL_turnRest_16 ?_
      exact gr_iret C Em dL_turnRest_18 h
  case hn =>
    rintro v S' ⟨r, rfl, h⟩ _ _ _
    exact gr_iret C Em dL_turnRest_6 h
def w_L_badTurns (B : Nat × Nat) (o : Nat) (a1 : Int32) (t : LwS) (Q : Int32 → LwS → Prop) : Prop := kdC t.1 o = 14 ∧ w_X11_badTurns B o a1 t.1 (fun r S' => Q r (S', t.2)) (fun E S' => (E = "java/lang/IllegalArgumentException" ∧ Q (-1000002) (S', t.2)) ∨ (E = "java/lang/IllegalStateException" ∧ Q (-1000003) (S', t.2)))
theorem c_L_badTurns (l : Launch) (D : va_G) (K : Nat → ClassId) (E0 b0 : Nat) (B : Nat × Nat) (o : Nat) (a1 : Int32) (t : LwS) (Q : Int32 → LwS → Prop) (h : w_L_badTurns B o a1 t Q) : MetR l yL_badTurns (.codeWith yL_badTurns cL_badTurns 3 (some .int) [(0, 5, 6, 16), (0, 5, 10, 19)]) 13 [.ref o, .int a1] Q D K E0 b0 B t := by
  obtain ⟨hk, h⟩ := h
  refine gr_startH (by decide) rfl (Nat.le_of_ble_eq_true rfl) (fun p e s m args below meth c C htab Em => ?_)
  refine gr_aloadn C 0 0 dL_badTurns_0 rfl rfl ?_
  refine gr_iloadn C 1 1 dL_badTurns_1 rfl rfl ?_
  refine gr_room (fun hr => ?_)
  refine gr_call C (y := yX11_badTurns) (as := [.int a1]) (by exact ⟨Nat.le_of_ble_eq_true rfl, Nat.le_of_ble_eq_true rfl⟩) B ⟨Nat.le_refl _, Nat.le_refl _⟩ hr (c_X11_badTurns l D K E0 B _ o a1 t.1 _ _ h) hk_X11_badTurns rfl vl_L_170 kc_X11_badTurns (isC_of hk (by decide)) dL_badTurns_2 (Nat.le_of_ble_eq_true rfl) ?hx ?hn
  case hx =>
    rintro E S' hx _ _
    rcases hx with ⟨rfl, h⟩ | ⟨rfl, h⟩
    · refine gr_catch C htab [] (0, 5, 6, 16) [(0, 5, 10, 19)] rfl (fun _ h9 => absurd h9 List.not_mem_nil) (by decide +kernel) (by decide) (by decide) v_i577 n_i590 (fun q => ?_)
      refine gr_astoren C 2 [(2, .ref q), (0, .ref o), (1, .int a1)] dL_badTurns_6 rfl (by decide) rfl ?_
      refine gr_ldc C (-1000002) v_i617 dL_badTurns_7 ?_
      exact gr_iret C Em dL_badTurns_9 h
    · refine gr_catch C htab [(0, 5, 6, 16)] (0, 5, 10, 19) [] rfl (List.forall_mem_cons.mpr ⟨⟨by decide, "java/lang/IllegalArgumentException", v_i577, by decide +kernel, by decide +kernel⟩, fun _ h9 => absurd h9 List.not_mem_nil⟩) (by decide +kernel) (by decide) (by decide) v_i632 n_i649 (fun q => ?_)
      refine gr_astoren C 2 [(2, .ref q), (0, .ref o), (1, .int a1)] dL_badTurns_10 rfl (by decide) rfl ?_
      refine gr_ldc C (-1000003) v_i908 dL_badTurns_11 ?_
      exact gr_iret C Em dL_badTurns_13 h
  case hn =>
    rintro v S' ⟨r, rfl, h⟩ _ _ _
    exact gr_iret C Em dL_badTurns_5 h
def w_L_sheets (B : Nat × Nat) (o : Nat) (a1 : Int32) (t : LwS) (Q : Int32 → LwS → Prop) : Prop := kdC t.1 o = 14 ∧ w_X11_sheets B o a1 t.1 (fun r S' => Q r (S', t.2)) (fun E S' => (E = "java/lang/IllegalArgumentException" ∧ Q (-1000002) (S', t.2)) ∨ (E = "java/lang/IllegalStateException" ∧ Q (-1000003) (S', t.2)))
theorem c_L_sheets (l : Launch) (D : va_G) (K : Nat → ClassId) (E0 b0 : Nat) (B : Nat × Nat) (o : Nat) (a1 : Int32) (t : LwS) (Q : Int32 → LwS → Prop) (h : w_L_sheets B o a1 t Q) : MetR l yL_sheets (.codeWith yL_sheets cL_sheets 3 (some .int) [(0, 5, 6, 16), (0, 5, 10, 19)]) 13 [.ref o, .int a1] Q D K E0 b0 B t := by
  obtain ⟨hk, h⟩ := h
  refine gr_startH (by decide) rfl (Nat.le_of_ble_eq_true rfl) (fun p e s m args below meth c C htab Em => ?_)
  refine gr_aloadn C 0 0 dL_sheets_0 rfl rfl ?_
  refine gr_iloadn C 1 1 dL_sheets_1 rfl rfl ?_
  refine gr_room (fun hr => ?_)
  refine gr_call C (y := yX11_sheets) (as := [.int a1]) (by exact ⟨Nat.le_of_ble_eq_true rfl, Nat.le_of_ble_eq_true rfl⟩) B ⟨Nat.le_refl _, Nat.le_refl _⟩ hr (c_X11_sheets l D K E0 B _ o a1 t.1 _ _ h) hk_X11_sheets rfl vl_L_173 kc_X11_sheets (isC_of hk (by decide)) dL_sheets_2 (Nat.le_of_ble_eq_true rfl) ?hx ?hn
  case hx =>
    rintro E S' hx _ _
    rcases hx with ⟨rfl, h⟩ | ⟨rfl, h⟩
    · refine gr_catch C htab [] (0, 5, 6, 16) [(0, 5, 10, 19)] rfl (fun _ h9 => absurd h9 List.not_mem_nil) (by decide +kernel) (by decide) (by decide) v_i577 n_i590 (fun q => ?_)
      refine gr_astoren C 2 [(2, .ref q), (0, .ref o), (1, .int a1)] dL_sheets_6 rfl (by decide) rfl ?_
      refine gr_ldc C (-1000002) v_i617 dL_sheets_7 ?_
      exact gr_iret C Em dL_sheets_9 h
    · refine gr_catch C htab [(0, 5, 6, 16)] (0, 5, 10, 19) [] rfl (List.forall_mem_cons.mpr ⟨⟨by decide, "java/lang/IllegalArgumentException", v_i577, by decide +kernel, by decide +kernel⟩, fun _ h9 => absurd h9 List.not_mem_nil⟩) (by decide +kernel) (by decide) (by decide) v_i632 n_i649 (fun q => ?_)
      refine gr_astoren C 2 [(2, .ref q), (0, .ref o), (1, .int a1)] dL_sheets_10 rfl (by decide) rfl ?_
      refine gr_ldc C (-1000003) v_i908 dL_sheets_11 ?_
      exact gr_iret C Em dL_sheets_13 h
  case hn =>
    rintro v S' ⟨r, rfl, h⟩ _ _ _
    exact gr_iret C Em dL_sheets_5 h
def w_L_sheetPage (B : Nat × Nat) (o : Nat) (a1 : Int32) (a2 : Int32) (a3 : Int32) (a4 : Int32) (t : LwS) (Q : Int32 → LwS → Prop) : Prop := kdC t.1 o = 14 ∧ w_X11_sheetPage B o a1 a2 a3 a4 t.1 (fun r S' => Q r (S', t.2)) (fun E S' => (E = "java/lang/IllegalArgumentException" ∧ Q (-1000002) (S', t.2)) ∨ (E = "java/lang/IllegalStateException" ∧ Q (-1000003) (S', t.2)) ∨ (E = "java/lang/IndexOutOfBoundsException" ∧ Q (-1000001) (S', t.2)))
theorem c_L_sheetPage (l : Launch) (D : va_G) (K : Nat → ClassId) (E0 b0 : Nat) (B : Nat × Nat) (o : Nat) (a1 : Int32) (a2 : Int32) (a3 : Int32) (a4 : Int32) (t : LwS) (Q : Int32 → LwS → Prop) (h : w_L_sheetPage B o a1 a2 a3 a4 t Q) : MetR l yL_sheetPage (.codeWith yL_sheetPage cL_sheetPage 6 (some .int) [(0, 9, 10, 16), (0, 9, 15, 19), (0, 9, 20, 26)]) 13 [.ref o, .int a1, .int a2, .int a3, .int a4] Q D K E0 b0 B t := by
  obtain ⟨hk, h⟩ := h
  refine gr_startH (by decide) rfl (Nat.le_of_ble_eq_true rfl) (fun p e s m args below meth c C htab Em => ?_)
  refine gr_aloadn C 0 0 dL_sheetPage_0 rfl rfl ?_
  refine gr_iloadn C 1 1 dL_sheetPage_1 rfl rfl ?_
  refine gr_iloadn C 2 2 dL_sheetPage_2 rfl rfl ?_
  refine gr_iloadn C 3 3 dL_sheetPage_3 rfl rfl ?_
  refine gr_iload C 4 dL_sheetPage_4 rfl ?_
  refine gr_room (fun hr => ?_)
  refine gr_call C (y := yX11_sheetPage) (as := [.int a1, .int a2, .int a3, .int a4]) (by exact ⟨Nat.le_of_ble_eq_true rfl, Nat.le_of_ble_eq_true rfl⟩) B ⟨Nat.le_refl _, Nat.le_refl _⟩ hr (c_X11_sheetPage l D K E0 B _ o a1 a2 a3 a4 t.1 _ _ h) hk_X11_sheetPage rfl vl_L_176 kc_X11_sheetPage (isC_of hk (by decide)) dL_sheetPage_6 (Nat.le_of_ble_eq_true rfl) ?hx ?hn
  case hx =>
    rintro E S' hx _ _
    rcases hx with ⟨rfl, h⟩ | ⟨rfl, h⟩ | ⟨rfl, h⟩
    · refine gr_catch C htab [] (0, 9, 10, 16) [(0, 9, 15, 19), (0, 9, 20, 26)] rfl (fun _ h9 => absurd h9 List.not_mem_nil) (by decide +kernel) (by decide) (by decide) v_i577 n_i590 (fun q => ?_)
      refine gr_astore C [(5, .ref q), (0, .ref o), (1, .int a1), (2, .int a2), (3, .int a3), (4, .int a4)] dL_sheetPage_10 (by decide) rfl ?_
      refine gr_ldc C (-1000002) v_i617 dL_sheetPage_12 ?_
      exact gr_iret C Em dL_sheetPage_14 h
    · refine gr_catch C htab [(0, 9, 10, 16)] (0, 9, 15, 19) [(0, 9, 20, 26)] rfl (List.forall_mem_cons.mpr ⟨⟨by decide, "java/lang/IllegalArgumentException", v_i577, by decide +kernel, by decide +kernel⟩, fun _ h9 => absurd h9 List.not_mem_nil⟩) (by decide +kernel) (by decide) (by decide) v_i632 n_i649 (fun q => ?_)
      refine gr_astore C [(5, .ref q), (0, .ref o), (1, .int a1), (2, .int a2), (3, .int a3), (4, .int a4)] dL_sheetPage_15 (by decide) rfl ?_
      refine gr_ldc C (-1000003) v_i908 dL_sheetPage_17 ?_
      exact gr_iret C Em dL_sheetPage_19 h
    · refine gr_catch C htab [(0, 9, 10, 16), (0, 9, 15, 19)] (0, 9, 20, 26) [] rfl (List.forall_mem_cons.mpr ⟨⟨by decide, "java/lang/IllegalArgumentException", v_i577, by decide +kernel, by decide +kernel⟩, List.forall_mem_cons.mpr ⟨⟨by decide, "java/lang/IllegalStateException", v_i632, by decide +kernel, by decide +kernel⟩, fun _ h9 => absurd h9 List.not_mem_nil⟩⟩) (by decide +kernel) (by decide) (by decide) v_i457 n_i467 (fun q => ?_)
      refine gr_astore C [(5, .ref q), (0, .ref o), (1, .int a1), (2, .int a2), (3, .int a3), (4, .int a4)] dL_sheetPage_20 (by decide) rfl ?_
      refine gr_ldc C (-1000001) v_i533 dL_sheetPage_22 ?_
      exact gr_iret C Em dL_sheetPage_24 h
  case hn =>
    rintro v S' ⟨r, rfl, h⟩ _ _ _
    exact gr_iret C Em dL_sheetPage_9 h
