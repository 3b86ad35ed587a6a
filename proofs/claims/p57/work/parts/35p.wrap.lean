/-! THE LAW'S METHODS THAT CALL THE CLASS AND CATCH (1) -/
def w_L_addBar (B : Nat × Nat) (o : Nat) (a1 : Int32) (a2 : Int32) (t : LwS) (Q : Int32 → LwS → Prop) : Prop := kdC t.1 o = 14 ∧ w_X11_addBar B o a1 a2 t.1 (fun r S' => Q r (S', t.2)) (fun E S' => (E = "java/lang/IllegalArgumentException" ∧ Q (-1000002) (S', t.2)) ∨ (E = "java/lang/IllegalStateException" ∧ Q (-1000003) (S', t.2)))
theorem c_L_addBar (l : Launch) (D : va_G) (K : Nat → ClassId) (E0 b0 : Nat) (B : Nat × Nat) (o : Nat) (a1 : Int32) (a2 : Int32) (t : LwS) (Q : Int32 → LwS → Prop) (h : w_L_addBar B o a1 a2 t Q) : MetR l yL_addBar (.codeWith yL_addBar cL_addBar 4 (some .int) [(0, 6, 7, 16), (0, 6, 11, 19)]) 9 [.ref o, .int a1, .int a2] Q D K E0 b0 B t := by
  obtain ⟨hk, h⟩ := h
  refine gr_startH (by decide) rfl (Nat.le_of_ble_eq_true rfl) (fun p e s m args below meth c C htab Em => ?_)
  refine gr_aloadn C 0 0 dL_addBar_0 rfl rfl ?_
  refine gr_iloadn C 1 1 dL_addBar_1 rfl rfl ?_
  refine gr_iloadn C 2 2 dL_addBar_2 rfl rfl ?_
  refine gr_room (fun hr => ?_)
  refine gr_call C (y := yX11_addBar) (as := [.int a1, .int a2]) (by exact ⟨Nat.le_of_ble_eq_true rfl, Nat.le_of_ble_eq_true rfl⟩) B ⟨Nat.le_refl _, Nat.le_refl _⟩ hr (c_X11_addBar l D K E0 B _ o a1 a2 t.1 _ _ h) hk_X11_addBar rfl vl_L_10 kc_X11_addBar (isC_of hk (by decide)) dL_addBar_3 (Nat.le_of_ble_eq_true rfl) ?hx ?hn
  case hx =>
    rintro E S' hx _ _
    rcases hx with ⟨rfl, h⟩ | ⟨rfl, h⟩
    · refine gr_catch C htab [] (0, 6, 7, 16) [(0, 6, 11, 19)] rfl (fun _ h9 => absurd h9 List.not_mem_nil) (by decide +kernel) (by decide) (by decide) v_i577 n_i590 (fun q => ?_)
      refine gr_astoren C 3 [(3, .ref q), (0, .ref o), (1, .int a1), (2, .int a2)] dL_addBar_7 rfl (by decide) rfl ?_
      refine gr_ldc C (-1000002) v_i617 dL_addBar_8 ?_
      exact gr_iret C Em dL_addBar_10 h
    · refine gr_catch C htab [(0, 6, 7, 16)] (0, 6, 11, 19) [] rfl (List.forall_mem_cons.mpr ⟨⟨by decide, "java/lang/IllegalArgumentException", v_i577, by decide +kernel, by decide +kernel⟩, fun _ h9 => absurd h9 List.not_mem_nil⟩) (by decide +kernel) (by decide) (by decide) v_i632 n_i649 (fun q => ?_)
      refine gr_astoren C 3 [(3, .ref q), (0, .ref o), (1, .int a1), (2, .int a2)] dL_addBar_11 rfl (by decide) rfl ?_
      refine gr_ldc C (-1000003) v_i908 dL_addBar_12 ?_
      exact gr_iret C Em dL_addBar_14 h
  case hn =>
    rintro v S' ⟨r, rfl, h⟩ _ _ _
    exact gr_iret C Em dL_addBar_6 h
def w_L_setMetre (B : Nat × Nat) (o : Nat) (a1 : Int32) (a2 : Int32) (a3 : Int32) (t : LwS) (Q : Int32 → LwS → Prop) : Prop := kdC t.1 o = 14 ∧ w_X11_setMetre B o a1 a2 a3 t.1 (fun r S' => Q r (S', t.2)) (fun E S' => (E = "java/lang/IndexOutOfBoundsException" ∧ Q (-1000001) (S', t.2)) ∨ (E = "java/lang/IllegalArgumentException" ∧ Q (-1000002) (S', t.2)) ∨ (E = "java/lang/IllegalStateException" ∧ Q (-1000003) (S', t.2)))
theorem c_L_setMetre (l : Launch) (D : va_G) (K : Nat → ClassId) (E0 b0 : Nat) (B : Nat × Nat) (o : Nat) (a1 : Int32) (a2 : Int32) (a3 : Int32) (t : LwS) (Q : Int32 → LwS → Prop) (h : w_L_setMetre B o a1 a2 a3 t Q) : MetR l yL_setMetre (.codeWith yL_setMetre cL_setMetre 5 (some .int) [(0, 7, 8, 26), (0, 7, 13, 16), (0, 7, 18, 19)]) 9 [.ref o, .int a1, .int a2, .int a3] Q D K E0 b0 B t := by
  obtain ⟨hk, h⟩ := h
  refine gr_startH (by decide) rfl (Nat.le_of_ble_eq_true rfl) (fun p e s m args below meth c C htab Em => ?_)
  refine gr_aloadn C 0 0 dL_setMetre_0 rfl rfl ?_
  refine gr_iloadn C 1 1 dL_setMetre_1 rfl rfl ?_
  refine gr_iloadn C 2 2 dL_setMetre_2 rfl rfl ?_
  refine gr_iloadn C 3 3 dL_setMetre_3 rfl rfl ?_
  refine gr_room (fun hr => ?_)
  refine gr_call C (y := yX11_setMetre) (as := [.int a1, .int a2, .int a3]) (by exact ⟨Nat.le_of_ble_eq_true rfl, Nat.le_of_ble_eq_true rfl⟩) B ⟨Nat.le_refl _, Nat.le_refl _⟩ hr (c_X11_setMetre l D K E0 B _ o a1 a2 a3 t.1 _ _ h) hk_X11_setMetre rfl vl_L_22 kc_X11_setMetre (isC_of hk (by decide)) dL_setMetre_4 (Nat.le_of_ble_eq_true rfl) ?hx ?hn
  case hx =>
    rintro E S' hx _ _
    rcases hx with ⟨rfl, h⟩ | ⟨rfl, h⟩ | ⟨rfl, h⟩
    · refine gr_catch C htab [] (0, 7, 8, 26) [(0, 7, 13, 16), (0, 7, 18, 19)] rfl (fun _ h9 => absurd h9 List.not_mem_nil) (by decide +kernel) (by decide) (by decide) v_i457 n_i467 (fun q => ?_)
      refine gr_astore C [(4, .ref q), (0, .ref o), (1, .int a1), (2, .int a2), (3, .int a3)] dL_setMetre_8 (by decide) rfl ?_
      refine gr_ldc C (-1000001) v_i533 dL_setMetre_10 ?_
      exact gr_iret C Em dL_setMetre_12 h
    · refine gr_catch C htab [(0, 7, 8, 26)] (0, 7, 13, 16) [(0, 7, 18, 19)] rfl (List.forall_mem_cons.mpr ⟨⟨by decide, "java/lang/IndexOutOfBoundsException", v_i457, by decide +kernel, by decide +kernel⟩, fun _ h9 => absurd h9 List.not_mem_nil⟩) (by decide +kernel) (by decide) (by decide) v_i577 n_i590 (fun q => ?_)
      refine gr_astore C [(4, .ref q), (0, .ref o), (1, .int a1), (2, .int a2), (3, .int a3)] dL_setMetre_13 (by decide) rfl ?_
      refine gr_ldc C (-1000002) v_i617 dL_setMetre_15 ?_
      exact gr_iret C Em dL_setMetre_17 h
    · refine gr_catch C htab [(0, 7, 8, 26), (0, 7, 13, 16)] (0, 7, 18, 19) [] rfl (List.forall_mem_cons.mpr ⟨⟨by decide, "java/lang/IndexOutOfBoundsException", v_i457, by decide +kernel, by decide +kernel⟩, List.forall_mem_cons.mpr ⟨⟨by decide, "java/lang/IllegalArgumentException", v_i577, by decide +kernel, by decide +kernel⟩, fun _ h9 => absurd h9 List.not_mem_nil⟩⟩) (by decide +kernel) (by decide) (by decide) v_i632 n_i649 (fun q => ?_)
      refine gr_astore C [(4, .ref q), (0, .ref o), (1, .int a1), (2, .int a2), (3, .int a3)] dL_setMetre_18 (by decide) rfl ?_
      refine gr_ldc C (-1000003) v_i908 dL_setMetre_20 ?_
      exact gr_iret C Em dL_setMetre_22 h
  case hn =>
    rintro v S' ⟨r, rfl, h⟩ _ _ _
    exact gr_iret C Em dL_setMetre_7 h
def w_L_setTempo (B : Nat × Nat) (o : Nat) (a1 : Int32) (a2 : Int32) (t : LwS) (Q : Int32 → LwS → Prop) : Prop := kdC t.1 o = 14 ∧ w_X11_setTempo B o a1 a2 t.1 (fun r S' => Q r (S', t.2)) (fun E S' => (E = "java/lang/IndexOutOfBoundsException" ∧ Q (-1000001) (S', t.2)) ∨ (E = "java/lang/IllegalArgumentException" ∧ Q (-1000002) (S', t.2)))
theorem c_L_setTempo (l : Launch) (D : va_G) (K : Nat → ClassId) (E0 b0 : Nat) (B : Nat × Nat) (o : Nat) (a1 : Int32) (a2 : Int32) (t : LwS) (Q : Int32 → LwS → Prop) (h : w_L_setTempo B o a1 a2 t Q) : MetR l yL_setTempo (.codeWith yL_setTempo cL_setTempo 4 (some .int) [(0, 6, 7, 26), (0, 6, 11, 16)]) 9 [.ref o, .int a1, .int a2] Q D K E0 b0 B t := by
  obtain ⟨hk, h⟩ := h
  refine gr_startH (by decide) rfl (Nat.le_of_ble_eq_true rfl) (fun p e s m args below meth c C htab Em => ?_)
  refine gr_aloadn C 0 0 dL_setTempo_0 rfl rfl ?_
  refine gr_iloadn C 1 1 dL_setTempo_1 rfl rfl ?_
  refine gr_iloadn C 2 2 dL_setTempo_2 rfl rfl ?_
  refine gr_room (fun hr => ?_)
  refine gr_call C (y := yX11_setTempo) (as := [.int a1, .int a2]) (by exact ⟨Nat.le_of_ble_eq_true rfl, Nat.le_of_ble_eq_true rfl⟩) B ⟨Nat.le_refl _, Nat.le_refl _⟩ hr (c_X11_setTempo l D K E0 B _ o a1 a2 t.1 _ _ h) hk_X11_setTempo rfl vl_L_29 kc_X11_setTempo (isC_of hk (by decide)) dL_setTempo_3 (Nat.le_of_ble_eq_true rfl) ?hx ?hn
  case hx =>
    rintro E S' hx _ _
    rcases hx with ⟨rfl, h⟩ | ⟨rfl, h⟩
    · refine gr_catch C htab [] (0, 6, 7, 26) [(0, 6, 11, 16)] rfl (fun _ h9 => absurd h9 List.not_mem_nil) (by decide +kernel) (by decide) (by decide) v_i457 n_i467 (fun q => ?_)
      refine gr_astoren C 3 [(3, .ref q), (0, .ref o), (1, .int a1), (2, .int a2)] dL_setTempo_7 rfl (by decide) rfl ?_
      refine gr_ldc C (-1000001) v_i533 dL_setTempo_8 ?_
      exact gr_iret C Em dL_setTempo_10 h
    · refine gr_catch C htab [(0, 6, 7, 26)] (0, 6, 11, 16) [] rfl (List.forall_mem_cons.mpr ⟨⟨by decide, "java/lang/IndexOutOfBoundsException", v_i457, by decide +kernel, by decide +kernel⟩, fun _ h9 => absurd h9 List.not_mem_nil⟩) (by decide +kernel) (by decide) (by decide) v_i577 n_i590 (fun q => ?_)
      refine gr_astoren C 3 [(3, .ref q), (0, .ref o), (1, .int a1), (2, .int a2)] dL_setTempo_11 rfl (by decide) rfl ?_
      refine gr_ldc C (-1000002) v_i617 dL_setTempo_12 ?_
      exact gr_iret C Em dL_setTempo_14 h
  case hn =>
    rintro v S' ⟨r, rfl, h⟩ _ _ _
    exact gr_iret C Em dL_setTempo_6 h
def w_L_length (B : Nat × Nat) (o : Nat) (a1 : Int32) (t : LwS) (Q : Int32 → LwS → Prop) : Prop := kdC t.1 o = 14 ∧ w_X11_length B o a1 t.1 (fun r S' => Q r (S', t.2)) (fun E S' => (E = "java/lang/IndexOutOfBoundsException" ∧ Q (-1000001) (S', t.2)))
theorem c_L_length (l : Launch) (D : va_G) (K : Nat → ClassId) (E0 b0 : Nat) (B : Nat × Nat) (o : Nat) (a1 : Int32) (t : LwS) (Q : Int32 → LwS → Prop) (h : w_L_length B o a1 t Q) : MetR l yL_length (.codeWith yL_length cL_length 3 (some .int) [(0, 5, 6, 26)]) 9 [.ref o, .int a1] Q D K E0 b0 B t := by
  obtain ⟨hk, h⟩ := h
  refine gr_startH (by decide) rfl (Nat.le_of_ble_eq_true rfl) (fun p e s m args below meth c C htab Em => ?_)
  refine gr_aloadn C 0 0 dL_length_0 rfl rfl ?_
  refine gr_iloadn C 1 1 dL_length_1 rfl rfl ?_
  refine gr_room (fun hr => ?_)
  refine gr_call C (y := yX11_length) (as := [.int a1]) (by exact ⟨Nat.le_of_ble_eq_true rfl, Nat.le_of_ble_eq_true rfl⟩) B ⟨Nat.le_refl _, Nat.le_refl _⟩ hr (c_X11_length l D K E0 B _ o a1 t.1 _ _ h) hk_X11_length rfl vl_L_32 kc_X11_length (isC_of hk (by decide)) dL_length_2 (Nat.le_of_ble_eq_true rfl) ?hx ?hn
  case hx =>
    rintro E S' hx _ _
    rcases hx with ⟨rfl, h⟩
    · refine gr_catch C htab [] (0, 5, 6, 26) [] rfl (fun _ h9 => absurd h9 List.not_mem_nil) (by decide +kernel) (by decide) (by decide) v_i457 n_i467 (fun q => ?_)
      refine gr_astoren C 2 [(2, .ref q), (0, .ref o), (1, .int a1)] dL_length_6 rfl (by decide) rfl ?_
      refine gr_ldc C (-1000001) v_i533 dL_length_7 ?_
      exact gr_iret C Em dL_length_9 h
  case hn =>
    rintro v S' ⟨r, rfl, h⟩ _ _ _
    exact gr_iret C Em dL_length_5 h
def w_L_tempo (B : Nat × Nat) (o : Nat) (a1 : Int32) (t : LwS) (Q : Int32 → LwS → Prop) : Prop := kdC t.1 o = 14 ∧ w_X11_tempo B o a1 t.1 (fun r S' => Q r (S', t.2)) (fun E S' => (E = "java/lang/IndexOutOfBoundsException" ∧ Q (-1000001) (S', t.2)))
theorem c_L_tempo (l : Launch) (D : va_G) (K : Nat → ClassId) (E0 b0 : Nat) (B : Nat × Nat) (o : Nat) (a1 : Int32) (t : LwS) (Q : Int32 → LwS → Prop) (h : w_L_tempo B o a1 t Q) : MetR l yL_tempo (.codeWith yL_tempo cL_tempo 3 (some .int) [(0, 5, 6, 26)]) 9 [.ref o, .int a1] Q D K E0 b0 B t := by
  obtain ⟨hk, h⟩ := h
  refine gr_startH (by decide) rfl (Nat.le_of_ble_eq_true rfl) (fun p e s m args below meth c C htab Em => ?_)
  refine gr_aloadn C 0 0 dL_tempo_0 rfl rfl ?_
  refine gr_iloadn C 1 1 dL_tempo_1 rfl rfl ?_
  refine gr_room (fun hr => ?_)
  refine gr_call C (y := yX11_tempo) (as := [.int a1]) (by exact ⟨Nat.le_of_ble_eq_true rfl, Nat.le_of_ble_eq_true rfl⟩) B ⟨Nat.le_refl _, Nat.le_refl _⟩ hr (c_X11_tempo l D K E0 B _ o a1 t.1 _ _ h) hk_X11_tempo rfl vl_L_36 kc_X11_tempo (isC_of hk (by decide)) dL_tempo_2 (Nat.le_of_ble_eq_true rfl) ?hx ?hn
  case hx =>
    rintro E S' hx _ _
    rcases hx with ⟨rfl, h⟩
    · refine gr_catch C htab [] (0, 5, 6, 26) [] rfl (fun _ h9 => absurd h9 List.not_mem_nil) (by decide +kernel) (by decide) (by decide) v_i457 n_i467 (fun q => ?_)
      refine gr_astoren C 2 [(2, .ref q), (0, .ref o), (1, .int a1)] dL_tempo_6 rfl (by decide) rfl ?_
      refine gr_ldc C (-1000001) v_i533 dL_tempo_7 ?_
      exact gr_iret C Em dL_tempo_9 h
  case hn =>
    rintro v S' ⟨r, rfl, h⟩ _ _ _
    exact gr_iret C Em dL_tempo_5 h
def w_L_time (B : Nat × Nat) (o : Nat) (a1 : Int32) (t : LwS) (Q : Int32 → LwS → Prop) : Prop := kdC t.1 o = 14 ∧ w_X11_time B o a1 t.1 (fun r S' => Q r (S', t.2)) (fun E S' => (E = "java/lang/IndexOutOfBoundsException" ∧ Q (-1000001) (S', t.2)))
theorem c_L_time (l : Launch) (D : va_G) (K : Nat → ClassId) (E0 b0 : Nat) (B : Nat × Nat) (o : Nat) (a1 : Int32) (t : LwS) (Q : Int32 → LwS → Prop) (h : w_L_time B o a1 t Q) : MetR l yL_time (.codeWith yL_time cL_time 3 (some .int) [(0, 5, 6, 26)]) 9 [.ref o, .int a1] Q D K E0 b0 B t := by
  obtain ⟨hk, h⟩ := h
  refine gr_startH (by decide) rfl (Nat.le_of_ble_eq_true rfl) (fun p e s m args below meth c C htab Em => ?_)
  refine gr_aloadn C 0 0 dL_time_0 rfl rfl ?_
  refine gr_iloadn C 1 1 dL_time_1 rfl rfl ?_
  refine gr_room (fun hr => ?_)
  refine gr_call C (y := yX11_time) (as := [.int a1]) (by exact ⟨Nat.le_of_ble_eq_true rfl, Nat.le_of_ble_eq_true rfl⟩) B ⟨Nat.le_refl _, Nat.le_refl _⟩ hr (c_X11_time l D K E0 B _ o a1 t.1 _ _ h) hk_X11_time rfl vl_L_39 kc_X11_time (isC_of hk (by decide)) dL_time_2 (Nat.le_of_ble_eq_true rfl) ?hx ?hn
  case hx =>
    rintro E S' hx _ _
    rcases hx with ⟨rfl, h⟩
    · refine gr_catch C htab [] (0, 5, 6, 26) [] rfl (fun _ h9 => absurd h9 List.not_mem_nil) (by decide +kernel) (by decide) (by decide) v_i457 n_i467 (fun q => ?_)
      refine gr_astoren C 2 [(2, .ref q), (0, .ref o), (1, .int a1)] dL_time_6 rfl (by decide) rfl ?_
      refine gr_ldc C (-1000001) v_i533 dL_time_7 ?_
      exact gr_iret C Em dL_time_9 h
  case hn =>
    rintro v S' ⟨r, rfl, h⟩ _ _ _
    exact gr_iret C Em dL_time_5 h
def w_L_insert (B : Nat × Nat) (o : Nat) (a1 : Int32) (a2 : Int32) (a3 : Int32) (a4 : Int32) (a5 : Int32) (a6 : Int32) (t : LwS) (Q : Int32 → LwS → Prop) : Prop := kdC t.1 o = 14 ∧ w_X11_insert B o a1 a2 a3 a4 a5 a6 t.1 (fun r S' => Q r (S', t.2)) (fun E S' => (E = "java/lang/IllegalArgumentException" ∧ Q (-1000002) (S', t.2)) ∨ (E = "java/lang/IndexOutOfBoundsException" ∧ Q (-1000001) (S', t.2)) ∨ (E = "java/lang/IllegalStateException" ∧ Q (-1000003) (S', t.2)))
theorem c_L_insert (l : Launch) (D : va_G) (K : Nat → ClassId) (E0 b0 : Nat) (B : Nat × Nat) (o : Nat) (a1 : Int32) (a2 : Int32) (a3 : Int32) (a4 : Int32) (a5 : Int32) (a6 : Int32) (t : LwS) (Q : Int32 → LwS → Prop) (h : w_L_insert B o a1 a2 a3 a4 a5 a6 t Q) : MetR l yL_insert (.codeWith yL_insert cL_insert 8 (some .int) [(0, 13, 14, 16), (0, 13, 19, 26), (0, 13, 24, 19)]) 9 [.ref o, .int a1, .int a2, .int a3, .int a4, .int a5, .int a6] Q D K E0 b0 B t := by
  obtain ⟨hk, h⟩ := h
  refine gr_startH (by decide) rfl (Nat.le_of_ble_eq_true rfl) (fun p e s m args below meth c C htab Em => ?_)
  refine gr_aloadn C 0 0 dL_insert_0 rfl rfl ?_
  refine gr_iloadn C 1 1 dL_insert_1 rfl rfl ?_
  refine gr_iloadn C 2 2 dL_insert_2 rfl rfl ?_
  refine gr_iloadn C 3 3 dL_insert_3 rfl rfl ?_
  refine gr_iload C 4 dL_insert_4 rfl ?_
  refine gr_iload C 5 dL_insert_6 rfl ?_
  refine gr_iload C 6 dL_insert_8 rfl ?_
  refine gr_room (fun hr => ?_)
  refine gr_call C (y := yX11_insert) (as := [.int a1, .int a2, .int a3, .int a4, .int a5, .int a6]) (by exact ⟨Nat.le_of_ble_eq_true rfl, Nat.le_of_ble_eq_true rfl⟩) B ⟨Nat.le_refl _, Nat.le_refl _⟩ hr (c_X11_insert l D K E0 B _ o a1 a2 a3 a4 a5 a6 t.1 _ _ h) hk_X11_insert rfl vl_L_42 kc_X11_insert (isC_of hk (by decide)) dL_insert_10 (Nat.le_of_ble_eq_true rfl) ?hx ?hn
  case hx =>
    rintro E S' hx _ _
    rcases hx with ⟨rfl, h⟩ | ⟨rfl, h⟩ | ⟨rfl, h⟩
    · refine gr_catch C htab [] (0, 13, 14, 16) [(0, 13, 19, 26), (0, 13, 24, 19)] rfl (fun _ h9 => absurd h9 List.not_mem_nil) (by decide +kernel) (by decide) (by decide) v_i577 n_i590 (fun q => ?_)
      refine gr_astore C [(7, .ref q), (0, .ref o), (1, .int a1), (2, .int a2), (3, .int a3), (4, .int a4), (5, .int a5), (6, .int a6)] dL_insert_14 (by decide) rfl ?_
      refine gr_ldc C (-1000002) v_i617 dL_insert_16 ?_
      exact gr_iret C Em dL_insert_18 h
    · refine gr_catch C htab [(0, 13, 14, 16)] (0, 13, 19, 26) [(0, 13, 24, 19)] rfl (List.forall_mem_cons.mpr ⟨⟨by decide, "java/lang/IllegalArgumentException", v_i577, by decide +kernel, by decide +kernel⟩, fun _ h9 => absurd h9 List.not_mem_nil⟩) (by decide +kernel) (by decide) (by decide) v_i457 n_i467 (fun q => ?_)
      refine gr_astore C [(7, .ref q), (0, .ref o), (1, .int a1), (2, .int a2), (3, .int a3), (4, .int a4), (5, .int a5), (6, .int a6)] dL_insert_19 (by decide) rfl ?_
      refine gr_ldc C (-1000001) v_i533 dL_insert_21 ?_
      exact gr_iret C Em dL_insert_23 h
    · refine gr_catch C htab [(0, 13, 14, 16), (0, 13, 19, 26)] (0, 13, 24, 19) [] rfl (List.forall_mem_cons.mpr ⟨⟨by decide, "java/lang/IllegalArgumentException", v_i577, by decide +kernel, by decide +kernel⟩, List.forall_mem_cons.mpr ⟨⟨by decide, "java/lang/IndexOutOfBoundsException", v_i457, by decide +kernel, by decide +kernel⟩, fun _ h9 => absurd h9 List.not_mem_nil⟩⟩) (by decide +kernel) (by decide) (by decide) v_i632 n_i649 (fun q => ?_)
      refine gr_astore C [(7, .ref q), (0, .ref o), (1, .int a1), (2, .int a2), (3, .int a3), (4, .int a4), (5, .int a5), (6, .int a6)] dL_insert_24 (by decide) rfl ?_
      refine gr_ldc C (-1000003) v_i908 dL_insert_26 ?_
      exact gr_iret C Em dL_insert_28 h
  case hn =>
    rintro v S' ⟨r, rfl, h⟩ _ _ _
    exact gr_iret C Em dL_insert_13 h
def w_L_remove (B : Nat × Nat) (o : Nat) (a1 : Int32) (a2 : Int32) (a3 : Int32) (t : LwS) (Q : Int32 → LwS → Prop) : Prop := kdC t.1 o = 14 ∧ w_X11_remove B o a1 a2 a3 t.1 (fun r S' => Q r (S', t.2)) (fun E S' => (E = "java/lang/IllegalArgumentException" ∧ Q (-1000002) (S', t.2)) ∨ (E = "java/lang/IndexOutOfBoundsException" ∧ Q (-1000001) (S', t.2)))
theorem c_L_remove (l : Launch) (D : va_G) (K : Nat → ClassId) (E0 b0 : Nat) (B : Nat × Nat) (o : Nat) (a1 : Int32) (a2 : Int32) (a3 : Int32) (t : LwS) (Q : Int32 → LwS → Prop) (h : w_L_remove B o a1 a2 a3 t Q) : MetR l yL_remove (.codeWith yL_remove cL_remove 5 (some .int) [(0, 7, 8, 16), (0, 7, 13, 26)]) 10 [.ref o, .int a1, .int a2, .int a3] Q D K E0 b0 B t := by
  obtain ⟨hk, h⟩ := h
  refine gr_startH (by decide) rfl (Nat.le_of_ble_eq_true rfl) (fun p e s m args below meth c C htab Em => ?_)
  refine gr_aloadn C 0 0 dL_remove_0 rfl rfl ?_
  refine gr_iloadn C 1 1 dL_remove_1 rfl rfl ?_
  refine gr_iloadn C 2 2 dL_remove_2 rfl rfl ?_
  refine gr_iloadn C 3 3 dL_remove_3 rfl rfl ?_
  refine gr_room (fun hr => ?_)
  refine gr_call C (y := yX11_remove) (as := [.int a1, .int a2, .int a3]) (by exact ⟨Nat.le_of_ble_eq_true rfl, Nat.le_of_ble_eq_true rfl⟩) B ⟨Nat.le_refl _, Nat.le_refl _⟩ hr (c_X11_remove l D K E0 B _ o a1 a2 a3 t.1 _ _ h) hk_X11_remove rfl vl_L_46 kc_X11_remove (isC_of hk (by decide)) dL_remove_4 (Nat.le_of_ble_eq_true rfl) ?hx ?hn
  case hx =>
    rintro E S' hx _ _
    rcases hx with ⟨rfl, h⟩ | ⟨rfl, h⟩
    · refine gr_catch C htab [] (0, 7, 8, 16) [(0, 7, 13, 26)] rfl (fun _ h9 => absurd h9 List.not_mem_nil) (by decide +kernel) (by decide) (by decide) v_i577 n_i590 (fun q => ?_)
      refine gr_astore C [(4, .ref q), (0, .ref o), (1, .int a1), (2, .int a2), (3, .int a3)] dL_remove_8 (by decide) rfl ?_
      refine gr_ldc C (-1000002) v_i617 dL_remove_10 ?_
      exact gr_iret C Em dL_remove_12 h
    · refine gr_catch C htab [(0, 7, 8, 16)] (0, 7, 13, 26) [] rfl (List.forall_mem_cons.mpr ⟨⟨by decide, "java/lang/IllegalArgumentException", v_i577, by decide +kernel, by decide +kernel⟩, fun _ h9 => absurd h9 List.not_mem_nil⟩) (by decide +kernel) (by decide) (by decide) v_i457 n_i467 (fun q => ?_)
      refine gr_astore C [(4, .ref q), (0, .ref o), (1, .int a1), (2, .int a2), (3, .int a3)] dL_remove_13 (by decide) rfl ?_
      refine gr_ldc C (-1000001) v_i533 dL_remove_15 ?_
      exact gr_iret C Em dL_remove_17 h
  case hn =>
    rintro v S' ⟨r, rfl, h⟩ _ _ _
    exact gr_iret C Em dL_remove_7 h
def w_L_setPitch (B : Nat × Nat) (o : Nat) (a1 : Int32) (a2 : Int32) (a3 : Int32) (a4 : Int32) (t : LwS) (Q : Int32 → LwS → Prop) : Prop := kdC t.1 o = 14 ∧ w_X11_setPitch B o a1 a2 a3 a4 t.1 (fun r S' => Q r (S', t.2)) (fun E S' => (E = "java/lang/IllegalArgumentException" ∧ Q (-1000002) (S', t.2)) ∨ (E = "java/lang/IndexOutOfBoundsException" ∧ Q (-1000001) (S', t.2)) ∨ (E = "java/lang/IllegalStateException" ∧ Q (-1000003) (S', t.2)))
theorem c_L_setPitch (l : Launch) (D : va_G) (K : Nat → ClassId) (E0 b0 : Nat) (B : Nat × Nat) (o : Nat) (a1 : Int32) (a2 : Int32) (a3 : Int32) (a4 : Int32) (t : LwS) (Q : Int32 → LwS → Prop) (h : w_L_setPitch B o a1 a2 a3 a4 t Q) : MetR l yL_setPitch (.codeWith yL_setPitch cL_setPitch 6 (some .int) [(0, 9, 10, 16), (0, 9, 15, 26), (0, 9, 20, 19)]) 10 [.ref o, .int a1, .int a2, .int a3, .int a4] Q D K E0 b0 B t := by
  obtain ⟨hk, h⟩ := h
  refine gr_startH (by decide) rfl (Nat.le_of_ble_eq_true rfl) (fun p e s m args below meth c C htab Em => ?_)
  refine gr_aloadn C 0 0 dL_setPitch_0 rfl rfl ?_
  refine gr_iloadn C 1 1 dL_setPitch_1 rfl rfl ?_
  refine gr_iloadn C 2 2 dL_setPitch_2 rfl rfl ?_
  refine gr_iloadn C 3 3 dL_setPitch_3 rfl rfl ?_
  refine gr_iload C 4 dL_setPitch_4 rfl ?_
  refine gr_room (fun hr => ?_)
  refine gr_call C (y := yX11_setPitch) (as := [.int a1, .int a2, .int a3, .int a4]) (by exact ⟨Nat.le_of_ble_eq_true rfl, Nat.le_of_ble_eq_true rfl⟩) B ⟨Nat.le_refl _, Nat.le_refl _⟩ hr (c_X11_setPitch l D K E0 B _ o a1 a2 a3 a4 t.1 _ _ h) hk_X11_setPitch rfl vl_L_49 kc_X11_setPitch (isC_of hk (by decide)) dL_setPitch_6 (Nat.le_of_ble_eq_true rfl) ?hx ?hn
  case hx =>
    rintro E S' hx _ _
    rcases hx with ⟨rfl, h⟩ | ⟨rfl, h⟩ | ⟨rfl, h⟩
    · refine gr_catch C htab [] (0, 9, 10, 16) [(0, 9, 15, 26), (0, 9, 20, 19)] rfl (fun _ h9 => absurd h9 List.not_mem_nil) (by decide +kernel) (by decide) (by decide) v_i577 n_i590 (fun q => ?_)
      refine gr_astore C [(5, .ref q), (0, .ref o), (1, .int a1), (2, .int a2), (3, .int a3), (4, .int a4)] dL_setPitch_10 (by decide) rfl ?_
      refine gr_ldc C (-1000002) v_i617 dL_setPitch_12 ?_
      exact gr_iret C Em dL_setPitch_14 h
    · refine gr_catch C htab [(0, 9, 10, 16)] (0, 9, 15, 26) [(0, 9, 20, 19)] rfl (List.forall_mem_cons.mpr ⟨⟨by decide, "java/lang/IllegalArgumentException", v_i577, by decide +kernel, by decide +kernel⟩, fun _ h9 => absurd h9 List.not_mem_nil⟩) (by decide +kernel) (by decide) (by decide) v_i457 n_i467 (fun q => ?_)
      refine gr_astore C [(5, .ref q), (0, .ref o), (1, .int a1), (2, .int a2), (3, .int a3), (4, .int a4)] dL_setPitch_15 (by decide) rfl ?_
      refine gr_ldc C (-1000001) v_i533 dL_setPitch_17 ?_
      exact gr_iret C Em dL_setPitch_19 h
    · refine gr_catch C htab [(0, 9, 10, 16), (0, 9, 15, 26)] (0, 9, 20, 19) [] rfl (List.forall_mem_cons.mpr ⟨⟨by decide, "java/lang/IllegalArgumentException", v_i577, by decide +kernel, by decide +kernel⟩, List.forall_mem_cons.mpr ⟨⟨by decide, "java/lang/IndexOutOfBoundsException", v_i457, by decide +kernel, by decide +kernel⟩, fun _ h9 => absurd h9 List.not_mem_nil⟩⟩) (by decide +kernel) (by decide) (by decide) v_i632 n_i649 (fun q => ?_)
      refine gr_astore C [(5, .ref q), (0, .ref o), (1, .int a1), (2, .int a2), (3, .int a3), (4, .int a4)] dL_setPitch_20 (by decide) rfl ?_
      refine gr_ldc C (-1000003) v_i908 dL_setPitch_22 ?_
      exact gr_iret C Em dL_setPitch_24 h
  case hn =>
    rintro v S' ⟨r, rfl, h⟩ _ _ _
    exact gr_iret C Em dL_setPitch_9 h
def w_L_setTie (B : Nat × Nat) (o : Nat) (a1 : Int32) (a2 : Int32) (a3 : Int32) (a4 : Int32) (t : LwS) (Q : Int32 → LwS → Prop) : Prop := kdC t.1 o = 14 ∧ w_X11_setTie B o a1 a2 a3 a4 t.1 (fun r S' => (¬ r = 0 → Q 1 (S', t.2)) ∧ (r = 0 → Q 0 (S', t.2))) (fun E S' => (E = "java/lang/IllegalArgumentException" ∧ Q (-1000002) (S', t.2)) ∨ (E = "java/lang/IndexOutOfBoundsException" ∧ Q (-1000001) (S', t.2)) ∨ (E = "java/lang/IllegalStateException" ∧ Q (-1000003) (S', t.2)))
theorem c_L_setTie (l : Launch) (D : va_G) (K : Nat → ClassId) (E0 b0 : Nat) (B : Nat × Nat) (o : Nat) (a1 : Int32) (a2 : Int32) (a3 : Int32) (a4 : Int32) (t : LwS) (Q : Int32 → LwS → Prop) (h : w_L_setTie B o a1 a2 a3 a4 t Q) : MetR l yL_setTie (.codeWith yL_setTie cL_setTie 6 (some .int) [(0, 17, 18, 16), (0, 17, 23, 26), (0, 17, 28, 19)]) 10 [.ref o, .int a1, .int a2, .int a3, .int a4] Q D K E0 b0 B t := by
  obtain ⟨hk, h⟩ := h
  refine gr_startH (by decide) rfl (Nat.le_of_ble_eq_true rfl) (fun p e s m args below meth c C htab Em => ?_)
  refine gr_aloadn C 0 0 dL_setTie_0 rfl rfl ?_
  refine gr_iloadn C 1 1 dL_setTie_1 rfl rfl ?_
  refine gr_iloadn C 2 2 dL_setTie_2 rfl rfl ?_
  refine gr_iloadn C 3 3 dL_setTie_3 rfl rfl ?_
  refine gr_iload C 4 dL_setTie_4 rfl ?_
  refine gr_room (fun hr => ?_)
  refine gr_call C (y := yX11_setTie) (as := [.int a1, .int a2, .int a3, .int a4]) (by exact ⟨Nat.le_of_ble_eq_true rfl, Nat.le_of_ble_eq_true rfl⟩) B ⟨Nat.le_refl _, Nat.le_refl _⟩ hr (c_X11_setTie l D K E0 B _ o a1 a2 a3 a4 t.1 _ _ h) hk_X11_setTie rfl vl_L_53 kc_X11_setTie (isC_of hk (by decide)) dL_setTie_6 (Nat.le_of_ble_eq_true rfl) ?hx ?hn
  case hx =>
    rintro E S' hx _ _
    rcases hx with ⟨rfl, h⟩ | ⟨rfl, h⟩ | ⟨rfl, h⟩
    · refine gr_catch C htab [] (0, 17, 18, 16) [(0, 17, 23, 26), (0, 17, 28, 19)] rfl (fun _ h9 => absurd h9 List.not_mem_nil) (by decide +kernel) (by decide) (by decide) v_i577 n_i590 (fun q => ?_)
      refine gr_astore C [(5, .ref q), (0, .ref o), (1, .int a1), (2, .int a2), (3, .int a3), (4, .int a4)] dL_setTie_18 (by decide) rfl ?_
      refine gr_ldc C (-1000002) v_i617 dL_setTie_20 ?_
      exact gr_iret C Em dL_setTie_22 h
    · refine gr_catch C htab [(0, 17, 18, 16)] (0, 17, 23, 26) [(0, 17, 28, 19)] rfl (List.forall_mem_cons.mpr ⟨⟨by decide, "java/lang/IllegalArgumentException", v_i577, by decide +kernel, by decide +kernel⟩, fun _ h9 => absurd h9 List.not_mem_nil⟩) (by decide +kernel) (by decide) (by decide) v_i457 n_i467 (fun q => ?_)
      refine gr_astore C [(5, .ref q), (0, .ref o), (1, .int a1), (2, .int a2), (3, .int a3), (4, .int a4)] dL_setTie_23 (by decide) rfl ?_
      refine gr_ldc C (-1000001) v_i533 dL_setTie_25 ?_
      exact gr_iret C Em dL_setTie_27 h
    · refine gr_catch C htab [(0, 17, 18, 16), (0, 17, 23, 26)] (0, 17, 28, 19) [] rfl (List.forall_mem_cons.mpr ⟨⟨by decide, "java/lang/IllegalArgumentException", v_i577, by decide +kernel, by decide +kernel⟩, List.forall_mem_cons.mpr ⟨⟨by decide, "java/lang/IndexOutOfBoundsException", v_i457, by decide +kernel, by decide +kernel⟩, fun _ h9 => absurd h9 List.not_mem_nil⟩⟩) (by decide +kernel) (by decide) (by decide) v_i632 n_i649 (fun q => ?_)
      refine gr_astore C [(5, .ref q), (0, .ref o), (1, .int a1), (2, .int a2), (3, .int a3), (4, .int a4)] dL_setTie_28 (by decide) rfl ?_
      refine gr_ldc C (-1000003) v_i908 dL_setTie_30 ?_
      exact gr_iret C Em dL_setTie_32 h
  case hn =>
    rintro v S' ⟨r, rfl, h⟩ _ _ _
    refine gr_if_eq C 16 dL_setTie_9 (by decide) (fun c1 => ?_) (fun c1 => ?_)
    · refine gr_iconst C 0 dL_setTie_16 (by decide) ?_
      exact gr_iret C Em dL_setTie_17 (h.2 c1)
    · refine gr_iconst C 1 dL_setTie_12 (by decide) ?_
      refine gr_goto C 17 dL_setTie_13 (by decide) ?_
      exact gr_iret C Em dL_setTie_17 (h.1 c1)
def w_L_setMark (B : Nat × Nat) (o : Nat) (a1 : Int32) (a2 : Int32) (a3 : Int32) (a4 : Int32) (t : LwS) (Q : Int32 → LwS → Prop) : Prop := kdC t.1 o = 14 ∧ w_X11_setMark B o a1 a2 a3 a4 t.1 (fun r S' => Q r (S', t.2)) (fun E S' => (E = "java/lang/IllegalArgumentException" ∧ Q (-1000002) (S', t.2)) ∨ (E = "java/lang/IndexOutOfBoundsException" ∧ Q (-1000001) (S', t.2)))
theorem c_L_setMark (l : Launch) (D : va_G) (K : Nat → ClassId) (E0 b0 : Nat) (B : Nat × Nat) (o : Nat) (a1 : Int32) (a2 : Int32) (a3 : Int32) (a4 : Int32) (t : LwS) (Q : Int32 → LwS → Prop) (h : w_L_setMark B o a1 a2 a3 a4 t Q) : MetR l yL_setMark (.codeWith yL_setMark cL_setMark 6 (some .int) [(0, 9, 10, 16), (0, 9, 15, 26)]) 10 [.ref o, .int a1, .int a2, .int a3, .int a4] Q D K E0 b0 B t := by
  obtain ⟨hk, h⟩ := h
  refine gr_startH (by decide) rfl (Nat.le_of_ble_eq_true rfl) (fun p e s m args below meth c C htab Em => ?_)
  refine gr_aloadn C 0 0 dL_setMark_0 rfl rfl ?_
  refine gr_iloadn C 1 1 dL_setMark_1 rfl rfl ?_
  refine gr_iloadn C 2 2 dL_setMark_2 rfl rfl ?_
  refine gr_iloadn C 3 3 dL_setMark_3 rfl rfl ?_
  refine gr_iload C 4 dL_setMark_4 rfl ?_
  refine gr_room (fun hr => ?_)
  refine gr_call C (y := yX11_setMark) (as := [.int a1, .int a2, .int a3, .int a4]) (by exact ⟨Nat.le_of_ble_eq_true rfl, Nat.le_of_ble_eq_true rfl⟩) B ⟨Nat.le_refl _, Nat.le_refl _⟩ hr (c_X11_setMark l D K E0 B _ o a1 a2 a3 a4 t.1 _ _ h) hk_X11_setMark rfl vl_L_57 kc_X11_setMark (isC_of hk (by decide)) dL_setMark_6 (Nat.le_of_ble_eq_true rfl) ?hx ?hn
  case hx =>
    rintro E S' hx _ _
    rcases hx with ⟨rfl, h⟩ | ⟨rfl, h⟩
    · refine gr_catch C htab [] (0, 9, 10, 16) [(0, 9, 15, 26)] rfl (fun _ h9 => absurd h9 List.not_mem_nil) (by decide +kernel) (by decide) (by decide) v_i577 n_i590 (fun q => ?_)
      refine gr_astore C [(5, .ref q), (0, .ref o), (1, .int a1), (2, .int a2), (3, .int a3), (4, .int a4)] dL_setMark_10 (by decide) rfl ?_
      refine gr_ldc C (-1000002) v_i617 dL_setMark_12 ?_
      exact gr_iret C Em dL_setMark_14 h
    · refine gr_catch C htab [(0, 9, 10, 16)] (0, 9, 15, 26) [] rfl (List.forall_mem_cons.mpr ⟨⟨by decide, "java/lang/IllegalArgumentException", v_i577, by decide +kernel, by decide +kernel⟩, fun _ h9 => absurd h9 List.not_mem_nil⟩) (by decide +kernel) (by decide) (by decide) v_i457 n_i467 (fun q => ?_)
      refine gr_astore C [(5, .ref q), (0, .ref o), (1, .int a1), (2, .int a2), (3, .int a3), (4, .int a4)] dL_setMark_15 (by decide) rfl ?_
      refine gr_ldc C (-1000001) v_i533 dL_setMark_17 ?_
      exact gr_iret C Em dL_setMark_19 h
  case hn =>
    rintro v S' ⟨r, rfl, h⟩ _ _ _
    exact gr_iret C Em dL_setMark_9 h
def w_L_transpose (B : Nat × Nat) (o : Nat) (a1 : Int32) (a2 : Int32) (t : LwS) (Q : Int32 → LwS → Prop) : Prop := kdC t.1 o = 14 ∧ w_X11_transpose B o a1 a2 t.1 (fun r S' => Q r (S', t.2)) (fun E S' => (E = "java/lang/IllegalArgumentException" ∧ Q (-1000002) (S', t.2)) ∨ (E = "java/lang/IllegalStateException" ∧ Q (-1000003) (S', t.2)))
theorem c_L_transpose (l : Launch) (D : va_G) (K : Nat → ClassId) (E0 b0 : Nat) (B : Nat × Nat) (o : Nat) (a1 : Int32) (a2 : Int32) (t : LwS) (Q : Int32 → LwS → Prop) (h : w_L_transpose B o a1 a2 t Q) : MetR l yL_transpose (.codeWith yL_transpose cL_transpose 4 (some .int) [(0, 6, 7, 16), (0, 6, 11, 19)]) 9 [.ref o, .int a1, .int a2] Q D K E0 b0 B t := by
  obtain ⟨hk, h⟩ := h
  refine gr_startH (by decide) rfl (Nat.le_of_ble_eq_true rfl) (fun p e s m args below meth c C htab Em => ?_)
  refine gr_aloadn C 0 0 dL_transpose_0 rfl rfl ?_
  refine gr_iloadn C 1 1 dL_transpose_1 rfl rfl ?_
  refine gr_iloadn C 2 2 dL_transpose_2 rfl rfl ?_
  refine gr_room (fun hr => ?_)
  refine gr_call C (y := yX11_transpose) (as := [.int a1, .int a2]) (by exact ⟨Nat.le_of_ble_eq_true rfl, Nat.le_of_ble_eq_true rfl⟩) B ⟨Nat.le_refl _, Nat.le_refl _⟩ hr (c_X11_transpose l D K E0 B _ o a1 a2 t.1 _ _ h) hk_X11_transpose rfl vl_L_60 kc_X11_transpose (isC_of hk (by decide)) dL_transpose_3 (Nat.le_of_ble_eq_true rfl) ?hx ?hn
  case hx =>
    rintro E S' hx _ _
    rcases hx with ⟨rfl, h⟩ | ⟨rfl, h⟩
    · refine gr_catch C htab [] (0, 6, 7, 16) [(0, 6, 11, 19)] rfl (fun _ h9 => absurd h9 List.not_mem_nil) (by decide +kernel) (by decide) (by decide) v_i577 n_i590 (fun q => ?_)
      refine gr_astoren C 3 [(3, .ref q), (0, .ref o), (1, .int a1), (2, .int a2)] dL_transpose_7 rfl (by decide) rfl ?_
      refine gr_ldc C (-1000002) v_i617 dL_transpose_8 ?_
      exact gr_iret C Em dL_transpose_10 h
    · refine gr_catch C htab [(0, 6, 7, 16)] (0, 6, 11, 19) [] rfl (List.forall_mem_cons.mpr ⟨⟨by decide, "java/lang/IllegalArgumentException", v_i577, by decide +kernel, by decide +kernel⟩, fun _ h9 => absurd h9 List.not_mem_nil⟩) (by decide +kernel) (by decide) (by decide) v_i632 n_i649 (fun q => ?_)
      refine gr_astoren C 3 [(3, .ref q), (0, .ref o), (1, .int a1), (2, .int a2)] dL_transpose_11 rfl (by decide) rfl ?_
      refine gr_ldc C (-1000003) v_i908 dL_transpose_12 ?_
      exact gr_iret C Em dL_transpose_14 h
  case hn =>
    rintro v S' ⟨r, rfl, h⟩ _ _ _
    exact gr_iret C Em dL_transpose_6 h
def w_L_events (B : Nat × Nat) (o : Nat) (a1 : Int32) (a2 : Int32) (t : LwS) (Q : Int32 → LwS → Prop) : Prop := kdC t.1 o = 14 ∧ w_X11_events B o a1 a2 t.1 (fun r S' => Q r (S', t.2)) (fun E S' => (E = "java/lang/IllegalArgumentException" ∧ Q (-1000002) (S', t.2)) ∨ (E = "java/lang/IndexOutOfBoundsException" ∧ Q (-1000001) (S', t.2)))
theorem c_L_events (l : Launch) (D : va_G) (K : Nat → ClassId) (E0 b0 : Nat) (B : Nat × Nat) (o : Nat) (a1 : Int32) (a2 : Int32) (t : LwS) (Q : Int32 → LwS → Prop) (h : w_L_events B o a1 a2 t Q) : MetR l yL_events (.codeWith yL_events cL_events 4 (some .int) [(0, 6, 7, 16), (0, 6, 11, 26)]) 9 [.ref o, .int a1, .int a2] Q D K E0 b0 B t := by
  obtain ⟨hk, h⟩ := h
  refine gr_startH (by decide) rfl (Nat.le_of_ble_eq_true rfl) (fun p e s m args below meth c C htab Em => ?_)
  refine gr_aloadn C 0 0 dL_events_0 rfl rfl ?_
  refine gr_iloadn C 1 1 dL_events_1 rfl rfl ?_
  refine gr_iloadn C 2 2 dL_events_2 rfl rfl ?_
  refine gr_room (fun hr => ?_)
  refine gr_call C (y := yX11_events) (as := [.int a1, .int a2]) (by exact ⟨Nat.le_of_ble_eq_true rfl, Nat.le_of_ble_eq_true rfl⟩) B ⟨Nat.le_refl _, Nat.le_refl _⟩ hr (c_X11_events l D K E0 B _ o a1 a2 t.1 _ _ h) hk_X11_events rfl vl_L_63 kc_X11_events (isC_of hk (by decide)) dL_events_3 (Nat.le_of_ble_eq_true rfl) ?hx ?hn
  case hx =>
    rintro E S' hx _ _
    rcases hx with ⟨rfl, h⟩ | ⟨rfl, h⟩
    · refine gr_catch C htab [] (0, 6, 7, 16) [(0, 6, 11, 26)] rfl (fun _ h9 => absurd h9 List.not_mem_nil) (by decide +kernel) (by decide) (by decide) v_i577 n_i590 (fun q => ?_)
      refine gr_astoren C 3 [(3, .ref q), (0, .ref o), (1, .int a1), (2, .int a2)] dL_events_7 rfl (by decide) rfl ?_
      refine gr_ldc C (-1000002) v_i617 dL_events_8 ?_
      exact gr_iret C Em dL_events_10 h
    · refine gr_catch C htab [(0, 6, 7, 16)] (0, 6, 11, 26) [] rfl (List.forall_mem_cons.mpr ⟨⟨by decide, "java/lang/IllegalArgumentException", v_i577, by decide +kernel, by decide +kernel⟩, fun _ h9 => absurd h9 List.not_mem_nil⟩) (by decide +kernel) (by decide) (by decide) v_i457 n_i467 (fun q => ?_)
      refine gr_astoren C 3 [(3, .ref q), (0, .ref o), (1, .int a1), (2, .int a2)] dL_events_11 rfl (by decide) rfl ?_
      refine gr_ldc C (-1000001) v_i533 dL_events_12 ?_
      exact gr_iret C Em dL_events_14 h
  case hn =>
    rintro v S' ⟨r, rfl, h⟩ _ _ _
    exact gr_iret C Em dL_events_6 h
def w_L_left (B : Nat × Nat) (o : Nat) (a1 : Int32) (a2 : Int32) (t : LwS) (Q : Int32 → LwS → Prop) : Prop := kdC t.1 o = 14 ∧ w_X11_left B o a1 a2 t.1 (fun r S' => Q r (S', t.2)) (fun E S' => (E = "java/lang/IllegalArgumentException" ∧ Q (-1000002) (S', t.2)) ∨ (E = "java/lang/IndexOutOfBoundsException" ∧ Q (-1000001) (S', t.2)))
theorem c_L_left (l : Launch) (D : va_G) (K : Nat → ClassId) (E0 b0 : Nat) (B : Nat × Nat) (o : Nat) (a1 : Int32) (a2 : Int32) (t : LwS) (Q : Int32 → LwS → Prop) (h : w_L_left B o a1 a2 t Q) : MetR l yL_left (.codeWith yL_left cL_left 4 (some .int) [(0, 6, 7, 16), (0, 6, 11, 26)]) 9 [.ref o, .int a1, .int a2] Q D K E0 b0 B t := by
  obtain ⟨hk, h⟩ := h
  refine gr_startH (by decide) rfl (Nat.le_of_ble_eq_true rfl) (fun p e s m args below meth c C htab Em => ?_)
  refine gr_aloadn C 0 0 dL_left_0 rfl rfl ?_
  refine gr_iloadn C 1 1 dL_left_1 rfl rfl ?_
  refine gr_iloadn C 2 2 dL_left_2 rfl rfl ?_
  refine gr_room (fun hr => ?_)
  refine gr_call C (y := yX11_left) (as := [.int a1, .int a2]) (by exact ⟨Nat.le_of_ble_eq_true rfl, Nat.le_of_ble_eq_true rfl⟩) B ⟨Nat.le_refl _, Nat.le_refl _⟩ hr (c_X11_left l D K E0 B _ o a1 a2 t.1 _ _ h) hk_X11_left rfl vl_L_66 kc_X11_left (isC_of hk (by decide)) dL_left_3 (Nat.le_of_ble_eq_true rfl) ?hx ?hn
  case hx =>
    rintro E S' hx _ _
    rcases hx with ⟨rfl, h⟩ | ⟨rfl, h⟩
    · refine gr_catch C htab [] (0, 6, 7, 16) [(0, 6, 11, 26)] rfl (fun _ h9 => absurd h9 List.not_mem_nil) (by decide +kernel) (by decide) (by decide) v_i577 n_i590 (fun q => ?_)
      refine gr_astoren C 3 [(3, .ref q), (0, .ref o), (1, .int a1), (2, .int a2)] dL_left_7 rfl (by decide) rfl ?_
      refine gr_ldc C (-1000002) v_i617 dL_left_8 ?_
      exact gr_iret C Em dL_left_10 h
    · refine gr_catch C htab [(0, 6, 7, 16)] (0, 6, 11, 26) [] rfl (List.forall_mem_cons.mpr ⟨⟨by decide, "java/lang/IllegalArgumentException", v_i577, by decide +kernel, by decide +kernel⟩, fun _ h9 => absurd h9 List.not_mem_nil⟩) (by decide +kernel) (by decide) (by decide) v_i457 n_i467 (fun q => ?_)
      refine gr_astoren C 3 [(3, .ref q), (0, .ref o), (1, .int a1), (2, .int a2)] dL_left_11 rfl (by decide) rfl ?_
      refine gr_ldc C (-1000001) v_i533 dL_left_12 ?_
      exact gr_iret C Em dL_left_14 h
  case hn =>
    rintro v S' ⟨r, rfl, h⟩ _ _ _
    exact gr_iret C Em dL_left_6 h
def w_L_isRight (B : Nat × Nat) (o : Nat) (a1 : Int32) (a2 : Int32) (t : LwS) (Q : Int32 → LwS → Prop) : Prop := kdC t.1 o = 14 ∧ w_X11_isRight B o a1 a2 t.1 (fun r S' => (¬ r = 0 → Q 1 (S', t.2)) ∧ (r = 0 → Q 0 (S', t.2))) (fun E S' => (E = "java/lang/IllegalArgumentException" ∧ Q (-1000002) (S', t.2)) ∨ (E = "java/lang/IndexOutOfBoundsException" ∧ Q (-1000001) (S', t.2)))
theorem c_L_isRight (l : Launch) (D : va_G) (K : Nat → ClassId) (E0 b0 : Nat) (B : Nat × Nat) (o : Nat) (a1 : Int32) (a2 : Int32) (t : LwS) (Q : Int32 → LwS → Prop) (h : w_L_isRight B o a1 a2 t Q) : MetR l yL_isRight (.codeWith yL_isRight cL_isRight 4 (some .int) [(0, 14, 15, 16), (0, 14, 19, 26)]) 9 [.ref o, .int a1, .int a2] Q D K E0 b0 B t := by
  obtain ⟨hk, h⟩ := h
  refine gr_startH (by decide) rfl (Nat.le_of_ble_eq_true rfl) (fun p e s m args below meth c C htab Em => ?_)
  refine gr_aloadn C 0 0 dL_isRight_0 rfl rfl ?_
  refine gr_iloadn C 1 1 dL_isRight_1 rfl rfl ?_
  refine gr_iloadn C 2 2 dL_isRight_2 rfl rfl ?_
  refine gr_room (fun hr => ?_)
  refine gr_call C (y := yX11_isRight) (as := [.int a1, .int a2]) (by exact ⟨Nat.le_of_ble_eq_true rfl, Nat.le_of_ble_eq_true rfl⟩) B ⟨Nat.le_refl _, Nat.le_refl _⟩ hr (c_X11_isRight l D K E0 B _ o a1 a2 t.1 _ _ h) hk_X11_isRight rfl vl_L_69 kc_X11_isRight (isC_of hk (by decide)) dL_isRight_3 (Nat.le_of_ble_eq_true rfl) ?hx ?hn
  case hx =>
    rintro E S' hx _ _
    rcases hx with ⟨rfl, h⟩ | ⟨rfl, h⟩
    · refine gr_catch C htab [] (0, 14, 15, 16) [(0, 14, 19, 26)] rfl (fun _ h9 => absurd h9 List.not_mem_nil) (by decide +kernel) (by decide) (by decide) v_i577 n_i590 (fun q => ?_)
      refine gr_astoren C 3 [(3, .ref q), (0, .ref o), (1, .int a1), (2, .int a2)] dL_isRight_15 rfl (by decide) rfl ?_
      refine gr_ldc C (-1000002) v_i617 dL_isRight_16 ?_
      exact gr_iret C Em dL_isRight_18 h
    · refine gr_catch C htab [(0, 14, 15, 16)] (0, 14, 19, 26) [] rfl (List.forall_mem_cons.mpr ⟨⟨by decide, "java/lang/IllegalArgumentException", v_i577, by decide +kernel, by decide +kernel⟩, fun _ h9 => absurd h9 List.not_mem_nil⟩) (by decide +kernel) (by decide) (by decide) v_i457 n_i467 (fun q => ?_)
      refine gr_astoren C 3 [(3, .ref q), (0, .ref o), (1, .int a1), (2, .int a2)] dL_isRight_19 rfl (by decide) rfl ?_
      refine gr_ldc C (-1000001) v_i533 dL_isRight_20 ?_
      exact gr_iret C Em dL_isRight_22 h
  case hn =>
    rintro v S' ⟨r, rfl, h⟩ _ _ _
    refine gr_if_eq C 13 dL_isRight_6 (by decide) (fun c1 => ?_) (fun c1 => ?_)
    · refine gr_iconst C 0 dL_isRight_13 (by decide) ?_
      exact gr_iret C Em dL_isRight_14 (h.2 c1)
    · refine gr_iconst C 1 dL_isRight_9 (by decide) ?_
      refine gr_goto C 14 dL_isRight_10 (by decide) ?_
      exact gr_iret C Em dL_isRight_14 (h.1 c1)
def w_L_written (B : Nat × Nat) (o : Nat) (a1 : Int32) (a2 : Int32) (a3 : Int32) (t : LwS) (Q : Int32 → LwS → Prop) : Prop := kdC t.1 o = 14 ∧ w_X11_written B o a1 a2 a3 t.1 (fun r S' => Q r (S', t.2)) (fun E S' => (E = "java/lang/IllegalArgumentException" ∧ Q (-1000002) (S', t.2)) ∨ (E = "java/lang/IndexOutOfBoundsException" ∧ Q (-1000001) (S', t.2)))
theorem c_L_written (l : Launch) (D : va_G) (K : Nat → ClassId) (E0 b0 : Nat) (B : Nat × Nat) (o : Nat) (a1 : Int32) (a2 : Int32) (a3 : Int32) (t : LwS) (Q : Int32 → LwS → Prop) (h : w_L_written B o a1 a2 a3 t Q) : MetR l yL_written (.codeWith yL_written cL_written 5 (some .int) [(0, 7, 8, 16), (0, 7, 13, 26)]) 10 [.ref o, .int a1, .int a2, .int a3] Q D K E0 b0 B t := by
  obtain ⟨hk, h⟩ := h
  refine gr_startH (by decide) rfl (Nat.le_of_ble_eq_true rfl) (fun p e s m args below meth c C htab Em => ?_)
  refine gr_aloadn C 0 0 dL_written_0 rfl rfl ?_
  refine gr_iloadn C 1 1 dL_written_1 rfl rfl ?_
  refine gr_iloadn C 2 2 dL_written_2 rfl rfl ?_
  refine gr_iloadn C 3 3 dL_written_3 rfl rfl ?_
  refine gr_room (fun hr => ?_)
  refine gr_call C (y := yX11_written) (as := [.int a1, .int a2, .int a3]) (by exact ⟨Nat.le_of_ble_eq_true rfl, Nat.le_of_ble_eq_true rfl⟩) B ⟨Nat.le_refl _, Nat.le_refl _⟩ hr (c_X11_written l D K E0 B _ o a1 a2 a3 t.1 _ _ h) hk_X11_written rfl vl_L_73 kc_X11_written (isC_of hk (by decide)) dL_written_4 (Nat.le_of_ble_eq_true rfl) ?hx ?hn
  case hx =>
    rintro E S' hx _ _
    rcases hx with ⟨rfl, h⟩ | ⟨rfl, h⟩
    · refine gr_catch C htab [] (0, 7, 8, 16) [(0, 7, 13, 26)] rfl (fun _ h9 => absurd h9 List.not_mem_nil) (by decide +kernel) (by decide) (by decide) v_i577 n_i590 (fun q => ?_)
      refine gr_astore C [(4, .ref q), (0, .ref o), (1, .int a1), (2, .int a2), (3, .int a3)] dL_written_8 (by decide) rfl ?_
      refine gr_ldc C (-1000002) v_i617 dL_written_10 ?_
      exact gr_iret C Em dL_written_12 h
    · refine gr_catch C htab [(0, 7, 8, 16)] (0, 7, 13, 26) [] rfl (List.forall_mem_cons.mpr ⟨⟨by decide, "java/lang/IllegalArgumentException", v_i577, by decide +kernel, by decide +kernel⟩, fun _ h9 => absurd h9 List.not_mem_nil⟩) (by decide +kernel) (by decide) (by decide) v_i457 n_i467 (fun q => ?_)
      refine gr_astore C [(4, .ref q), (0, .ref o), (1, .int a1), (2, .int a2), (3, .int a3)] dL_written_13 (by decide) rfl ?_
      refine gr_ldc C (-1000001) v_i533 dL_written_15 ?_
      exact gr_iret C Em dL_written_17 h
  case hn =>
    rintro v S' ⟨r, rfl, h⟩ _ _ _
    exact gr_iret C Em dL_written_7 h
def w_L_addPhrase (B : Nat × Nat) (o : Nat) (a1 : Int32) (a2 : Int32) (a3 : Int32) (a4 : Int32) (a5 : Int32) (t : LwS) (Q : Int32 → LwS → Prop) : Prop := kdC t.1 o = 14 ∧ w_X11_addPhrase B o a1 a2 a3 a4 a5 t.1 (fun r S' => Q r (S', t.2)) (fun E S' => (E = "java/lang/IllegalArgumentException" ∧ Q (-1000002) (S', t.2)) ∨ (E = "java/lang/IndexOutOfBoundsException" ∧ Q (-1000001) (S', t.2)) ∨ (E = "java/lang/IllegalStateException" ∧ Q (-1000003) (S', t.2)))
theorem c_L_addPhrase (l : Launch) (D : va_G) (K : Nat → ClassId) (E0 b0 : Nat) (B : Nat × Nat) (o : Nat) (a1 : Int32) (a2 : Int32) (a3 : Int32) (a4 : Int32) (a5 : Int32) (t : LwS) (Q : Int32 → LwS → Prop) (h : w_L_addPhrase B o a1 a2 a3 a4 a5 t Q) : MetR l yL_addPhrase (.codeWith yL_addPhrase cL_addPhrase 7 (some .int) [(0, 11, 12, 16), (0, 11, 17, 26), (0, 11, 22, 19)]) 10 [.ref o, .int a1, .int a2, .int a3, .int a4, .int a5] Q D K E0 b0 B t := by
  obtain ⟨hk, h⟩ := h
  refine gr_startH (by decide) rfl (Nat.le_of_ble_eq_true rfl) (fun p e s m args below meth c C htab Em => ?_)
  refine gr_aloadn C 0 0 dL_addPhrase_0 rfl rfl ?_
  refine gr_iloadn C 1 1 dL_addPhrase_1 rfl rfl ?_
  refine gr_iloadn C 2 2 dL_addPhrase_2 rfl rfl ?_
  refine gr_iloadn C 3 3 dL_addPhrase_3 rfl rfl ?_
  refine gr_iload C 4 dL_addPhrase_4 rfl ?_
  refine gr_iload C 5 dL_addPhrase_6 rfl ?_
  refine gr_room (fun hr => ?_)
  refine gr_call C (y := yX11_addPhrase) (as := [.int a1, .int a2, .int a3, .int a4, .int a5]) (by exact ⟨Nat.le_of_ble_eq_true rfl, Nat.le_of_ble_eq_true rfl⟩) B ⟨Nat.le_refl _, Nat.le_refl _⟩ hr (c_X11_addPhrase l D K E0 B _ o a1 a2 a3 a4 a5 t.1 _ _ h) hk_X11_addPhrase rfl vl_L_76 kc_X11_addPhrase (isC_of hk (by decide)) dL_addPhrase_8 (Nat.le_of_ble_eq_true rfl) ?hx ?hn
  case hx =>
    rintro E S' hx _ _
    rcases hx with ⟨rfl, h⟩ | ⟨rfl, h⟩ | ⟨rfl, h⟩
    · refine gr_catch C htab [] (0, 11, 12, 16) [(0, 11, 17, 26), (0, 11, 22, 19)] rfl (fun _ h9 => absurd h9 List.not_mem_nil) (by decide +kernel) (by decide) (by decide) v_i577 n_i590 (fun q => ?_)
      refine gr_astore C [(6, .ref q), (0, .ref o), (1, .int a1), (2, .int a2), (3, .int a3), (4, .int a4), (5, .int a5)] dL_addPhrase_12 (by decide) rfl ?_
      refine gr_ldc C (-1000002) v_i617 dL_addPhrase_14 ?_
      exact gr_iret C Em dL_addPhrase_16 h
    · refine gr_catch C htab [(0, 11, 12, 16)] (0, 11, 17, 26) [(0, 11, 22, 19)] rfl (List.forall_mem_cons.mpr ⟨⟨by decide, "java/lang/IllegalArgumentException", v_i577, by decide +kernel, by decide +kernel⟩, fun _ h9 => absurd h9 List.not_mem_nil⟩) (by decide +kernel) (by decide) (by decide) v_i457 n_i467 (fun q => ?_)
      refine gr_astore C [(6, .ref q), (0, .ref o), (1, .int a1), (2, .int a2), (3, .int a3), (4, .int a4), (5, .int a5)] dL_addPhrase_17 (by decide) rfl ?_
      refine gr_ldc C (-1000001) v_i533 dL_addPhrase_19 ?_
      exact gr_iret C Em dL_addPhrase_21 h
    · refine gr_catch C htab [(0, 11, 12, 16), (0, 11, 17, 26)] (0, 11, 22, 19) [] rfl (List.forall_mem_cons.mpr ⟨⟨by decide, "java/lang/IllegalArgumentException", v_i577, by decide +kernel, by decide +kernel⟩, List.forall_mem_cons.mpr ⟨⟨by decide, "java/lang/IndexOutOfBoundsException", v_i457, by decide +kernel, by decide +kernel⟩, fun _ h9 => absurd h9 List.not_mem_nil⟩⟩) (by decide +kernel) (by decide) (by decide) v_i632 n_i649 (fun q => ?_)
      refine gr_astore C [(6, .ref q), (0, .ref o), (1, .int a1), (2, .int a2), (3, .int a3), (4, .int a4), (5, .int a5)] dL_addPhrase_22 (by decide) rfl ?_
      refine gr_ldc C (-1000003) v_i908 dL_addPhrase_24 ?_
      exact gr_iret C Em dL_addPhrase_26 h
  case hn =>
    rintro v S' ⟨r, rfl, h⟩ _ _ _
    exact gr_iret C Em dL_addPhrase_11 h
def w_L_dropPhrase (B : Nat × Nat) (o : Nat) (a1 : Int32) (t : LwS) (Q : Int32 → LwS → Prop) : Prop := kdC t.1 o = 14 ∧ w_X11_dropPhrase B o a1 t.1 (fun r S' => (¬ r = 0 → Q 1 (S', t.2)) ∧ (r = 0 → Q 0 (S', t.2))) (fun E S' => (E = "java/lang/IndexOutOfBoundsException" ∧ Q (-1000001) (S', t.2)))
theorem c_L_dropPhrase (l : Launch) (D : va_G) (K : Nat → ClassId) (E0 b0 : Nat) (B : Nat × Nat) (o : Nat) (a1 : Int32) (t : LwS) (Q : Int32 → LwS → Prop) (h : w_L_dropPhrase B o a1 t Q) : MetR l yL_dropPhrase (.codeWith yL_dropPhrase cL_dropPhrase 3 (some .int) [(0, 13, 14, 26)]) 8 [.ref o, .int a1] Q D K E0 b0 B t := by
  obtain ⟨hk, h⟩ := h
  refine gr_startH (by decide) rfl (Nat.le_of_ble_eq_true rfl) (fun p e s m args below meth c C htab Em => ?_)
  refine gr_aloadn C 0 0 dL_dropPhrase_0 rfl rfl ?_
  refine gr_iloadn C 1 1 dL_dropPhrase_1 rfl rfl ?_
  refine gr_room (fun hr => ?_)
  refine gr_call C (y := yX11_dropPhrase) (as := [.int a1]) (by exact ⟨Nat.le_of_ble_eq_true rfl, Nat.le_of_ble_eq_true rfl⟩) B ⟨Nat.le_refl _, Nat.le_refl _⟩ hr (c_X11_dropPhrase l D K E0 B _ o a1 t.1 _ _ h) hk_X11_dropPhrase rfl vl_L_80 kc_X11_dropPhrase (isC_of hk (by decide)) dL_dropPhrase_2 (Nat.le_of_ble_eq_true rfl) ?hx ?hn
  case hx =>
    rintro E S' hx _ _
    rcases hx with ⟨rfl, h⟩
    · refine gr_catch C htab [] (0, 13, 14, 26) [] rfl (fun _ h9 => absurd h9 List.not_mem_nil) (by decide +kernel) (by decide) (by decide) v_i457 n_i467 (fun q => ?_)
      refine gr_astoren C 2 [(2, .ref q), (0, .ref o), (1, .int a1)] dL_dropPhrase_14 rfl (by decide) rfl ?_
      refine gr_ldc C (-1000001) v_i533 dL_dropPhrase_15 ?_
      exact gr_iret C Em dL_dropPhrase_17 h
  case hn =>
    rintro v S' ⟨r, rfl, h⟩ _ _ _
    refine gr_if_eq C 12 dL_dropPhrase_5 (by decide) (fun c1 => ?_) (fun c1 => ?_)
    · refine gr_iconst C 0 dL_dropPhrase_12 (by decide) ?_
      exact gr_iret C Em dL_dropPhrase_13 (h.2 c1)
    · refine gr_iconst C 1 dL_dropPhrase_8 (by decide) ?_
      refine gr_goto C 13 dL_dropPhrase_9 (by decide) ?_
      exact gr_iret C Em dL_dropPhrase_13 (h.1 c1)
def w_L_allowTurn (B : Nat × Nat) (o : Nat) (a1 : Int32) (a2 : Int32) (a3 : Int32) (t : LwS) (Q : Int32 → LwS → Prop) : Prop := kdC t.1 o = 14 ∧ w_X11_allowTurn B o a1 a2 a3 t.1 (fun r S' => (¬ r = 0 → Q 1 (S', t.2)) ∧ (r = 0 → Q 0 (S', t.2))) (fun E S' => (E = "java/lang/IllegalArgumentException" ∧ Q (-1000002) (S', t.2)) ∨ (E = "java/lang/IndexOutOfBoundsException" ∧ Q (-1000001) (S', t.2)))
theorem c_L_allowTurn (l : Launch) (D : va_G) (K : Nat → ClassId) (E0 b0 : Nat) (B : Nat × Nat) (o : Nat) (a1 : Int32) (a2 : Int32) (a3 : Int32) (t : LwS) (Q : Int32 → LwS → Prop) (h : w_L_allowTurn B o a1 a2 a3 t Q) : MetR l yL_allowTurn (.codeWith yL_allowTurn cL_allowTurn 5 (some .int) [(0, 15, 16, 16), (0, 15, 21, 26)]) 9 [.ref o, .int a1, .int a2, .int a3] Q D K E0 b0 B t := by
  obtain ⟨hk, h⟩ := h
  refine gr_startH (by decide) rfl (Nat.le_of_ble_eq_true rfl) (fun p e s m args below meth c C htab Em => ?_)
  refine gr_aloadn C 0 0 dL_allowTurn_0 rfl rfl ?_
  refine gr_iloadn C 1 1 dL_allowTurn_1 rfl rfl ?_
  refine gr_iloadn C 2 2 dL_allowTurn_2 rfl rfl ?_
  refine gr_iloadn C 3 3 dL_allowTurn_3 rfl rfl ?_
  refine gr_room (fun hr => ?_)
  refine gr_call C (y := yX11_allowTurn) (as := [.int a1, .int a2, .int a3]) (by exact ⟨Nat.le_of_ble_eq_true rfl, Nat.le_of_ble_eq_true rfl⟩) B ⟨Nat.le_refl _, Nat.le_refl _⟩ hr (c_X11_allowTurn l D K E0 B _ o a1 a2 a3 t.1 _ _ h) hk_X11_allowTurn rfl vl_L_84 kc_X11_allowTurn (isC_of hk (by decide)) dL_allowTurn_4 (Nat.le_of_ble_eq_true rfl) ?hx ?hn
  case hx =>
    rintro E S' hx _ _
    rcases hx with ⟨rfl, h⟩ | ⟨rfl, h⟩
    · refine gr_catch C htab [] (0, 15, 16, 16) [(0, 15, 21, 26)] rfl (fun _ h9 => absurd h9 List.not_mem_nil) (by decide +kernel) (by decide) (by decide) v_i577 n_i590 (fun q => ?_)
      refine gr_astore C [(4, .ref q), (0, .ref o), (1, .int a1), (2, .int a2), (3, .int a3)] dL_allowTurn_16 (by decide) rfl ?_
      refine gr_ldc C (-1000002) v_i617 dL_allowTurn_18 ?_
      exact gr_iret C Em dL_allowTurn_20 h
    · refine gr_catch C htab [(0, 15, 16, 16)] (0, 15, 21, 26) [] rfl (List.forall_mem_cons.mpr ⟨⟨by decide, "java/lang/IllegalArgumentException", v_i577, by decide +kernel, by decide +kernel⟩, fun _ h9 => absurd h9 List.not_mem_nil⟩) (by decide +kernel) (by decide) (by decide) v_i457 n_i467 (fun q => ?_)
      refine gr_astore C [(4, .ref q), (0, .ref o), (1, .int a1), (2, .int a2), (3, .int a3)] dL_allowTurn_21 (by decide) rfl ?_
      refine gr_ldc C (-1000001) v_i533 dL_allowTurn_23 ?_
      exact gr_iret C Em dL_allowTurn_25 h
  case hn =>
    rintro v S' ⟨r, rfl, h⟩ _ _ _
    refine gr_if_eq C 14 dL_allowTurn_7 (by decide) (fun c1 => ?_) (fun c1 => ?_)
    · refine gr_iconst C 0 dL_allowTurn_14 (by decide) ?_
      exact gr_iret C Em dL_allowTurn_15 (h.2 c1)
    · refine gr_iconst C 1 dL_allowTurn_10 (by decide) ?_
      refine gr_goto C 15 dL_allowTurn_11 (by decide) ?_
      exact gr_iret C Em dL_allowTurn_15 (h.1 c1)
def w_L_addRepeat (B : Nat × Nat) (o : Nat) (a1 : Int32) (a2 : Int32) (a3 : Int32) (t : LwS) (Q : Int32 → LwS → Prop) : Prop := kdC t.1 o = 14 ∧ w_X11_addRepeat B o a1 a2 a3 t.1 (fun r S' => Q r (S', t.2)) (fun E S' => (E = "java/lang/IndexOutOfBoundsException" ∧ Q (-1000001) (S', t.2)) ∨ (E = "java/lang/IllegalArgumentException" ∧ Q (-1000002) (S', t.2)) ∨ (E = "java/lang/IllegalStateException" ∧ Q (-1000003) (S', t.2)))
theorem c_L_addRepeat (l : Launch) (D : va_G) (K : Nat → ClassId) (E0 b0 : Nat) (B : Nat × Nat) (o : Nat) (a1 : Int32) (a2 : Int32) (a3 : Int32) (t : LwS) (Q : Int32 → LwS → Prop) (h : w_L_addRepeat B o a1 a2 a3 t Q) : MetR l yL_addRepeat (.codeWith yL_addRepeat cL_addRepeat 5 (some .int) [(0, 7, 8, 26), (0, 7, 13, 16), (0, 7, 18, 19)]) 9 [.ref o, .int a1, .int a2, .int a3] Q D K E0 b0 B t := by
  obtain ⟨hk, h⟩ := h
  refine gr_startH (by decide) rfl (Nat.le_of_ble_eq_true rfl) (fun p e s m args below meth c C htab Em => ?_)
  refine gr_aloadn C 0 0 dL_addRepeat_0 rfl rfl ?_
  refine gr_iloadn C 1 1 dL_addRepeat_1 rfl rfl ?_
  refine gr_iloadn C 2 2 dL_addRepeat_2 rfl rfl ?_
  refine gr_iloadn C 3 3 dL_addRepeat_3 rfl rfl ?_
  refine gr_room (fun hr => ?_)
  refine gr_call C (y := yX11_addRepeat) (as := [.int a1, .int a2, .int a3]) (by exact ⟨Nat.le_of_ble_eq_true rfl, Nat.le_of_ble_eq_true rfl⟩) B ⟨Nat.le_refl _, Nat.le_refl _⟩ hr (c_X11_addRepeat l D K E0 B _ o a1 a2 a3 t.1 _ _ h) hk_X11_addRepeat rfl vl_L_88 kc_X11_addRepeat (isC_of hk (by decide)) dL_addRepeat_4 (Nat.le_of_ble_eq_true rfl) ?hx ?hn
  case hx =>
    rintro E S' hx _ _
    rcases hx with ⟨rfl, h⟩ | ⟨rfl, h⟩ | ⟨rfl, h⟩
    · refine gr_catch C htab [] (0, 7, 8, 26) [(0, 7, 13, 16), (0, 7, 18, 19)] rfl (fun _ h9 => absurd h9 List.not_mem_nil) (by decide +kernel) (by decide) (by decide) v_i457 n_i467 (fun q => ?_)
      refine gr_astore C [(4, .ref q), (0, .ref o), (1, .int a1), (2, .int a2), (3, .int a3)] dL_addRepeat_8 (by decide) rfl ?_
      refine gr_ldc C (-1000001) v_i533 dL_addRepeat_10 ?_
      exact gr_iret C Em dL_addRepeat_12 h
    · refine gr_catch C htab [(0, 7, 8, 26)] (0, 7, 13, 16) [(0, 7, 18, 19)] rfl (List.forall_mem_cons.mpr ⟨⟨by decide, "java/lang/IndexOutOfBoundsException", v_i457, by decide +kernel, by decide +kernel⟩, fun _ h9 => absurd h9 List.not_mem_nil⟩) (by decide +kernel) (by decide) (by decide) v_i577 n_i590 (fun q => ?_)
      refine gr_astore C [(4, .ref q), (0, .ref o), (1, .int a1), (2, .int a2), (3, .int a3)] dL_addRepeat_13 (by decide) rfl ?_
      refine gr_ldc C (-1000002) v_i617 dL_addRepeat_15 ?_
      exact gr_iret C Em dL_addRepeat_17 h
    · refine gr_catch C htab [(0, 7, 8, 26), (0, 7, 13, 16)] (0, 7, 18, 19) [] rfl (List.forall_mem_cons.mpr ⟨⟨by decide, "java/lang/IndexOutOfBoundsException", v_i457, by decide +kernel, by decide +kernel⟩, List.forall_mem_cons.mpr ⟨⟨by decide, "java/lang/IllegalArgumentException", v_i577, by decide +kernel, by decide +kernel⟩, fun _ h9 => absurd h9 List.not_mem_nil⟩⟩) (by decide +kernel) (by decide) (by decide) v_i632 n_i649 (fun q => ?_)
      refine gr_astore C [(4, .ref q), (0, .ref o), (1, .int a1), (2, .int a2), (3, .int a3)] dL_addRepeat_18 (by decide) rfl ?_
      refine gr_ldc C (-1000003) v_i908 dL_addRepeat_20 ?_
      exact gr_iret C Em dL_addRepeat_22 h
  case hn =>
    rintro v S' ⟨r, rfl, h⟩ _ _ _
    exact gr_iret C Em dL_addRepeat_7 h
def w_L_dropRepeat (B : Nat × Nat) (o : Nat) (a1 : Int32) (t : LwS) (Q : Int32 → LwS → Prop) : Prop := kdC t.1 o = 14 ∧ w_X11_dropRepeat B o a1 t.1 (fun r S' => Q r (S', t.2)) (fun E S' => (E = "java/lang/IndexOutOfBoundsException" ∧ Q (-1000001) (S', t.2)) ∨ (E = "java/lang/IllegalStateException" ∧ Q (-1000003) (S', t.2)))
theorem c_L_dropRepeat (l : Launch) (D : va_G) (K : Nat → ClassId) (E0 b0 : Nat) (B : Nat × Nat) (o : Nat) (a1 : Int32) (t : LwS) (Q : Int32 → LwS → Prop) (h : w_L_dropRepeat B o a1 t Q) : MetR l yL_dropRepeat (.codeWith yL_dropRepeat cL_dropRepeat 3 (some .int) [(0, 5, 6, 26), (0, 5, 10, 19)]) 9 [.ref o, .int a1] Q D K E0 b0 B t := by
  obtain ⟨hk, h⟩ := h
  refine gr_startH (by decide) rfl (Nat.le_of_ble_eq_true rfl) (fun p e s m args below meth c C htab Em => ?_)
  refine gr_aloadn C 0 0 dL_dropRepeat_0 rfl rfl ?_
  refine gr_iloadn C 1 1 dL_dropRepeat_1 rfl rfl ?_
  refine gr_room (fun hr => ?_)
  refine gr_call C (y := yX11_dropRepeat) (as := [.int a1]) (by exact ⟨Nat.le_of_ble_eq_true rfl, Nat.le_of_ble_eq_true rfl⟩) B ⟨Nat.le_refl _, Nat.le_refl _⟩ hr (c_X11_dropRepeat l D K E0 B _ o a1 t.1 _ _ h) hk_X11_dropRepeat rfl vl_L_91 kc_X11_dropRepeat (isC_of hk (by decide)) dL_dropRepeat_2 (Nat.le_of_ble_eq_true rfl) ?hx ?hn
  case hx =>
    rintro E S' hx _ _
    rcases hx with ⟨rfl, h⟩ | ⟨rfl, h⟩
    · refine gr_catch C htab [] (0, 5, 6, 26) [(0, 5, 10, 19)] rfl (fun _ h9 => absurd h9 List.not_mem_nil) (by decide +kernel) (by decide) (by decide) v_i457 n_i467 (fun q => ?_)
      refine gr_astoren C 2 [(2, .ref q), (0, .ref o), (1, .int a1)] dL_dropRepeat_6 rfl (by decide) rfl ?_
      refine gr_ldc C (-1000001) v_i533 dL_dropRepeat_7 ?_
      exact gr_iret C Em dL_dropRepeat_9 h
    · refine gr_catch C htab [(0, 5, 6, 26)] (0, 5, 10, 19) [] rfl (List.forall_mem_cons.mpr ⟨⟨by decide, "java/lang/IndexOutOfBoundsException", v_i457, by decide +kernel, by decide +kernel⟩, fun _ h9 => absurd h9 List.not_mem_nil⟩) (by decide +kernel) (by decide) (by decide) v_i632 n_i649 (fun q => ?_)
      refine gr_astoren C 2 [(2, .ref q), (0, .ref o), (1, .int a1)] dL_dropRepeat_10 rfl (by decide) rfl ?_
      refine gr_ldc C (-1000003) v_i908 dL_dropRepeat_11 ?_
      exact gr_iret C Em dL_dropRepeat_13 h
  case hn =>
    rintro v S' ⟨r, rfl, h⟩ _ _ _
    exact gr_iret C Em dL_dropRepeat_5 h
def w_L_barAt (B : Nat × Nat) (o : Nat) (a1 : Int32) (t : LwS) (Q : Int32 → LwS → Prop) : Prop := kdC t.1 o = 14 ∧ w_X11_barAt B o a1 t.1 (fun r S' => Q r (S', t.2)) (fun E S' => (E = "java/lang/IndexOutOfBoundsException" ∧ Q (-1000001) (S', t.2)))
theorem c_L_barAt (l : Launch) (D : va_G) (K : Nat → ClassId) (E0 b0 : Nat) (B : Nat × Nat) (o : Nat) (a1 : Int32) (t : LwS) (Q : Int32 → LwS → Prop) (h : w_L_barAt B o a1 t Q) : MetR l yL_barAt (.codeWith yL_barAt cL_barAt 3 (some .int) [(0, 5, 6, 26)]) 13 [.ref o, .int a1] Q D K E0 b0 B t := by
  obtain ⟨hk, h⟩ := h
  refine gr_startH (by decide) rfl (Nat.le_of_ble_eq_true rfl) (fun p e s m args below meth c C htab Em => ?_)
  refine gr_aloadn C 0 0 dL_barAt_0 rfl rfl ?_
  refine gr_iloadn C 1 1 dL_barAt_1 rfl rfl ?_
  refine gr_room (fun hr => ?_)
  refine gr_call C (y := yX11_barAt) (as := [.int a1]) (by exact ⟨Nat.le_of_ble_eq_true rfl, Nat.le_of_ble_eq_true rfl⟩) B ⟨Nat.le_refl _, Nat.le_refl _⟩ hr (c_X11_barAt l D K E0 B _ o a1 t.1 _ _ h) hk_X11_barAt rfl vl_L_94 kc_X11_barAt (isC_of hk (by decide)) dL_barAt_2 (Nat.le_of_ble_eq_true rfl) ?hx ?hn
  case hx =>
    rintro E S' hx _ _
    rcases hx with ⟨rfl, h⟩
    · refine gr_catch C htab [] (0, 5, 6, 26) [] rfl (fun _ h9 => absurd h9 List.not_mem_nil) (by decide +kernel) (by decide) (by decide) v_i457 n_i467 (fun q => ?_)
      refine gr_astoren C 2 [(2, .ref q), (0, .ref o), (1, .int a1)] dL_barAt_6 rfl (by decide) rfl ?_
      refine gr_ldc C (-1000001) v_i533 dL_barAt_7 ?_
      exact gr_iret C Em dL_barAt_9 h
  case hn =>
    rintro v S' ⟨r, rfl, h⟩ _ _ _
    exact gr_iret C Em dL_barAt_5 h
def w_L_startOf (B : Nat × Nat) (o : Nat) (a1 : Int32) (t : LwS) (Q : Int32 → LwS → Prop) : Prop := kdC t.1 o = 14 ∧ w_X11_startOf B o a1 t.1 (fun r S' => Q r (S', t.2)) (fun E S' => (E = "java/lang/IndexOutOfBoundsException" ∧ Q (-1000001) (S', t.2)))
theorem c_L_startOf (l : Launch) (D : va_G) (K : Nat → ClassId) (E0 b0 : Nat) (B : Nat × Nat) (o : Nat) (a1 : Int32) (t : LwS) (Q : Int32 → LwS → Prop) (h : w_L_startOf B o a1 t Q) : MetR l yL_startOf (.codeWith yL_startOf cL_startOf 3 (some .int) [(0, 5, 6, 26)]) 13 [.ref o, .int a1] Q D K E0 b0 B t := by
  obtain ⟨hk, h⟩ := h
  refine gr_startH (by decide) rfl (Nat.le_of_ble_eq_true rfl) (fun p e s m args below meth c C htab Em => ?_)
  refine gr_aloadn C 0 0 dL_startOf_0 rfl rfl ?_
  refine gr_iloadn C 1 1 dL_startOf_1 rfl rfl ?_
  refine gr_room (fun hr => ?_)
  refine gr_call C (y := yX11_startOf) (as := [.int a1]) (by exact ⟨Nat.le_of_ble_eq_true rfl, Nat.le_of_ble_eq_true rfl⟩) B ⟨Nat.le_refl _, Nat.le_refl _⟩ hr (c_X11_startOf l D K E0 B _ o a1 t.1 _ _ h) hk_X11_startOf rfl vl_L_97 kc_X11_startOf (isC_of hk (by decide)) dL_startOf_2 (Nat.le_of_ble_eq_true rfl) ?hx ?hn
  case hx =>
    rintro E S' hx _ _
    rcases hx with ⟨rfl, h⟩
    · refine gr_catch C htab [] (0, 5, 6, 26) [] rfl (fun _ h9 => absurd h9 List.not_mem_nil) (by decide +kernel) (by decide) (by decide) v_i457 n_i467 (fun q => ?_)
      refine gr_astoren C 2 [(2, .ref q), (0, .ref o), (1, .int a1)] dL_startOf_6 rfl (by decide) rfl ?_
      refine gr_ldc C (-1000001) v_i533 dL_startOf_7 ?_
      exact gr_iret C Em dL_startOf_9 h
  case hn =>
    rintro v S' ⟨r, rfl, h⟩ _ _ _
    exact gr_iret C Em dL_startOf_5 h
def w_L_timeByEvents (B : Nat × Nat) (o : Nat) (a1 : Int32) (t : LwS) (Q : Int32 → LwS → Prop) : Prop := kdC t.1 o = 14 ∧ w_X11_timeByEvents B o a1 t.1 (fun r S' => Q r (S', t.2)) (fun E S' => (E = "java/lang/IllegalArgumentException" ∧ Q (-1000002) (S', t.2)))
theorem c_L_timeByEvents (l : Launch) (D : va_G) (K : Nat → ClassId) (E0 b0 : Nat) (B : Nat × Nat) (o : Nat) (a1 : Int32) (t : LwS) (Q : Int32 → LwS → Prop) (h : w_L_timeByEvents B o a1 t Q) : MetR l yL_timeByEvents (.codeWith yL_timeByEvents cL_timeByEvents 3 (some .int) [(0, 5, 6, 16)]) 13 [.ref o, .int a1] Q D K E0 b0 B t := by
  obtain ⟨hk, h⟩ := h
  refine gr_startH (by decide) rfl (Nat.le_of_ble_eq_true rfl) (fun p e s m args below meth c C htab Em => ?_)
  refine gr_aloadn C 0 0 dL_timeByEvents_0 rfl rfl ?_
  refine gr_iloadn C 1 1 dL_timeByEvents_1 rfl rfl ?_
  refine gr_room (fun hr => ?_)
  refine gr_call C (y := yX11_timeByEvents) (as := [.int a1]) (by exact ⟨Nat.le_of_ble_eq_true rfl, Nat.le_of_ble_eq_true rfl⟩) B ⟨Nat.le_refl _, Nat.le_refl _⟩ hr (c_X11_timeByEvents l D K E0 B _ o a1 t.1 _ _ h) hk_X11_timeByEvents rfl vl_L_100 kc_X11_timeByEvents (isC_of hk (by decide)) dL_timeByEvents_2 (Nat.le_of_ble_eq_true rfl) ?hx ?hn
  case hx =>
    rintro E S' hx _ _
    rcases hx with ⟨rfl, h⟩
    · refine gr_catch C htab [] (0, 5, 6, 16) [] rfl (fun _ h9 => absurd h9 List.not_mem_nil) (by decide +kernel) (by decide) (by decide) v_i577 n_i590 (fun q => ?_)
      refine gr_astoren C 2 [(2, .ref q), (0, .ref o), (1, .int a1)] dL_timeByEvents_6 rfl (by decide) rfl ?_
      refine gr_ldc C (-1000002) v_i617 dL_timeByEvents_7 ?_
      exact gr_iret C Em dL_timeByEvents_9 h
  case hn =>
    rintro v S' ⟨r, rfl, h⟩ _ _ _
    exact gr_iret C Em dL_timeByEvents_5 h
def w_L_soundVoice (B : Nat × Nat) (o : Nat) (a1 : Int32) (t : LwS) (Q : Int32 → LwS → Prop) : Prop := kdC t.1 o = 14 ∧ w_X11_soundVoice B o a1 t.1 (fun r S' => Q r (S', t.2)) (fun E S' => (E = "java/lang/IndexOutOfBoundsException" ∧ Q (-1000001) (S', t.2)))
theorem c_L_soundVoice (l : Launch) (D : va_G) (K : Nat → ClassId) (E0 b0 : Nat) (B : Nat × Nat) (o : Nat) (a1 : Int32) (t : LwS) (Q : Int32 → LwS → Prop) (h : w_L_soundVoice B o a1 t Q) : MetR l yL_soundVoice (.codeWith yL_soundVoice cL_soundVoice 3 (some .int) [(0, 5, 6, 26)]) 13 [.ref o, .int a1] Q D K E0 b0 B t := by
  obtain ⟨hk, h⟩ := h
  refine gr_startH (by decide) rfl (Nat.le_of_ble_eq_true rfl) (fun p e s m args below meth c C htab Em => ?_)
  refine gr_aloadn C 0 0 dL_soundVoice_0 rfl rfl ?_
  refine gr_iloadn C 1 1 dL_soundVoice_1 rfl rfl ?_
  refine gr_room (fun hr => ?_)
  refine gr_call C (y := yX11_soundVoice) (as := [.int a1]) (by exact ⟨Nat.le_of_ble_eq_true rfl, Nat.le_of_ble_eq_true rfl⟩) B ⟨Nat.le_refl _, Nat.le_refl _⟩ hr (c_X11_soundVoice l D K E0 B _ o a1 t.1 _ _ h) hk_X11_soundVoice rfl vl_L_103 kc_X11_soundVoice (isC_of hk (by decide)) dL_soundVoice_2 (Nat.le_of_ble_eq_true rfl) ?hx ?hn
  case hx =>
    rintro E S' hx _ _
    rcases hx with ⟨rfl, h⟩
    · refine gr_catch C htab [] (0, 5, 6, 26) [] rfl (fun _ h9 => absurd h9 List.not_mem_nil) (by decide +kernel) (by decide) (by decide) v_i457 n_i467 (fun q => ?_)
      refine gr_astoren C 2 [(2, .ref q), (0, .ref o), (1, .int a1)] dL_soundVoice_6 rfl (by decide) rfl ?_
      refine gr_ldc C (-1000001) v_i533 dL_soundVoice_7 ?_
      exact gr_iret C Em dL_soundVoice_9 h
  case hn =>
    rintro v S' ⟨r, rfl, h⟩ _ _ _
    exact gr_iret C Em dL_soundVoice_5 h
