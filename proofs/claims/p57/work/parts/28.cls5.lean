/-! THE CLASS, METHOD BY METHOD (5) -/
def w_X6_renew_L36 (B : Nat × Nat) (a0 : Nat) (a1 : Nat) (Q : CS → Prop) (X : String → CS → Prop) (K36 : (Int32 × CS) → Prop) (z36 : Int32 × CS) : Prop := (((fI z36.2 146 a0) ≤ z36.1) → Q z36.2) ∧ (¬ ((fI z36.2 146 a0) ≤ z36.1) → w_X6_playPlace B a0 a1 z36.1 z36.2 (fun t7 => K36 ((z36.1 + 1), t7)) X)
def w_X6_renew (B : Nat × Nat) (a0 : Nat) (a1 : Nat) (t : CS) (Q : CS → Prop) (X : String → CS → Prop) : Prop := (kdC t a0 = 9) ∧ (kdC t a1 = 12) ∧ (((fI t 150 a0) = (fI t 199 a1)) → Q t) ∧ (¬ ((fI t 150 a0) = (fI t 199 a1)) → ∀ t3 : CS, t3 = usI t 150 a0 (fI t 199 a1) → w_X6_layPlaces B a0 a1 t3 (fun t4 => w_X9_spreadMarks B a1 t4 (fun t5 => ∀ t6 : CS, t6 = usI t5 149 a0 0 → ∃ n, lp (w_X6_renew_L36 B a0 a1 Q X) n (0, t6)) X) X)
set_option maxRecDepth 20000 in
set_option maxHeartbeats 2000000 in
theorem c_X6_renew (l : Launch) (D : va_G) (K : Nat → ClassId) (E0 : Nat) (B : Nat × Nat) (A0 : Nat → Prop) (a0 : Nat) (a1 : Nat) (t : CS) (Q : CS → Prop) (X : String → CS → Prop) (h : w_X6_renew B a0 a1 t Q X) : MetC l yX6_renew cX6_renew 3 none 10 [.ref a0, .ref a1] (qV Q) X D K E0 B A0 t := by
  unfold w_X6_renew at h
  refine gc_start (by decide) rfl (Nat.le_of_ble_eq_true rfl) (fun p e s m args below meth c C E => ?_)
  refine gc_aloadn C 0 0 dX6_renew_0 rfl rfl ?_
  obtain ⟨g1, h⟩ := h
  refine gc_getI C BX6 150 6 (by decide) rfl ft_150 vf_X6_25 rfl (isC_of g1 (by decide)) dX6_renew_1 ?_
  refine gc_aloadn C 1 1 dX6_renew_4 rfl rfl ?_
  obtain ⟨g2, h⟩ := h
  refine gc_getI C BX9 199 7 (by decide) rfl ft_199 vf_X6_41 rfl (isC_of g2 (by decide)) dX6_renew_5 ?_
  refine gc_icmp_ne C 12 dX6_renew_8 (by decide) (fun c8_1 => ?_) (fun c8_1 => ?_)
  · have h := h.2 c8_1
    refine gc_aloadn C 0 0 dX6_renew_12 rfl rfl ?_
    refine gc_aloadn C 1 1 dX6_renew_13 rfl rfl ?_
    refine gc_getI C BX9 199 7 (by decide) rfl ft_199 vf_X6_41 rfl (isC_of g2 (by decide)) dX6_renew_14 ?_
    refine gc_putI C BX6 150 6 (by decide) rfl .int ft_150 vf_X6_25 rfl rfl (by decide +kernel) rfl rfl (isC_of g1 (by decide)) dX6_renew_17 ?_
    refine gc_nameS (fun t3 et3 => ?_)
    have h := h t3 et3
    have lt3 : kdLe t t3 := kdLe.eq (by rw [et3]; rfl)
    refine gc_aloadn C 0 0 dX6_renew_20 rfl rfl ?_
    refine gc_aloadn C 1 1 dX6_renew_21 rfl rfl ?_
    refine gc_callV C BX6 (y := yX6_layPlaces) (as := [.ref a1]) rfl (by decide) (by decide) (c_X6_layPlaces l D K E0 B A0 a0 a1 t3 _ X h) hk_X6_layPlaces rfl vl_X6_44 kc_X6_layPlaces (isC_of (kdLe.k lt3 g1 (by decide) (by decide)) (by decide)) dX6_renew_22 (Nat.le_of_ble_eq_true rfl) (fun _ _ h => h) (qkV (fun t4 h lt4 => ?_))
    refine gc_aloadn C 1 1 dX6_renew_25 rfl rfl ?_
    refine gc_callV C BX9 (y := yX9_spreadMarks) (as := []) rfl (by decide) (by decide) (c_X9_spreadMarks l D K E0 B A0 a1 t4 _ X h) hk_X9_spreadMarks rfl vl_X6_48 kc_X9_spreadMarks (isC_of (kdLe.k (kdLe.tr lt3 lt4) g2 (by decide) (by decide)) (by decide)) dX6_renew_26 (Nat.le_of_ble_eq_true rfl) (fun _ _ h => h) (qkV (fun t5 h lt5 => ?_))
    refine gc_aloadn C 0 0 dX6_renew_29 rfl rfl ?_
    refine gc_iconst C 0 dX6_renew_30 (by decide) ?_
    refine gc_putI C BX6 149 5 (by decide) rfl .int ft_149 vf_X6_51 rfl rfl (by decide +kernel) rfl rfl (isC_of (kdLe.k (kdLe.tr lt3 (kdLe.tr lt4 lt5)) g1 (by decide) (by decide)) (by decide)) dX6_renew_31 ?_
    refine gc_nameS (fun t6 et6 => ?_)
    have h := h t6 et6
    have lt6 : kdLe t5 t6 := kdLe.eq (by rw [et6]; rfl)
    refine gc_iconst C 0 dX6_renew_34 (by decide) ?_
    refine gc_istoren C 2 [(2, .int 0), (0, .ref a0), (1, .ref a1)] dX6_renew_35 rfl (by decide) rfl ?_
    refine gc_sub [1, 2, 0] rfl ?_
    obtain ⟨n36, h⟩ := h
    have k36 : ∀ (n36 : Nat) (z36 : Int32 × CS), kdLe t6 z36.2 → lp (w_X6_renew_L36 B a0 a1 Q X) n36 z36 → GC p l e (rmC 10 B t) s m args below meth c 3 D K E0 B A0 (gc_Q below D K E0 A0 (qV Q) X args s t (rmC 10 B t)) z36.2 36 [(0, .ref a0), (1, .ref a1), (2, .int z36.1)] [] := by
      intro n36
      induction n36 with
      | zero => intro z36 lz36 h; exact h.elim
      | succ n36 ih36 =>
        intro z36 lz36 h
        have h : w_X6_renew_L36 B a0 a1 Q X (lp (w_X6_renew_L36 B a0 a1 Q X) n36) z36 := h
        unfold w_X6_renew_L36 at h
        refine gc_iloadn C 2 2 dX6_renew_36 rfl rfl ?_
        refine gc_aloadn C 0 0 dX6_renew_37 rfl rfl ?_
        refine gc_getI C BX6 146 2 (by decide) rfl ft_146 vf_X6_54 rfl (isC_of (kdLe.k (kdLe.tr lt3 (kdLe.tr lt4 (kdLe.tr lt5 (kdLe.tr lt6 lz36)))) g1 (by decide) (by decide)) (by decide)) dX6_renew_38 ?_
        refine gc_icmp_ge C 56 dX6_renew_41 (by decide) (fun c41_2 => ?_) (fun c41_2 => ?_)
        · have h := h.1 c41_2
          exact gc_vret C E (kdLe.tr lt3 (kdLe.tr lt4 (kdLe.tr lt5 (kdLe.tr lt6 lz36)))) dX6_renew_56 ⟨rfl, h⟩
        · have h := h.2 c41_2
          refine gc_aloadn C 0 0 dX6_renew_44 rfl rfl ?_
          refine gc_aloadn C 1 1 dX6_renew_45 rfl rfl ?_
          refine gc_iloadn C 2 2 dX6_renew_46 rfl rfl ?_
          refine gc_callV C BX6 (y := yX6_playPlace) (as := [.ref a1, .int z36.1]) rfl (by decide) (by decide) (c_X6_playPlace l D K E0 B A0 a0 a1 z36.1 z36.2 _ X h) hk_X6_playPlace rfl vl_X6_57 kc_X6_playPlace (isC_of (kdLe.k (kdLe.tr lt3 (kdLe.tr lt4 (kdLe.tr lt5 (kdLe.tr lt6 lz36)))) g1 (by decide) (by decide)) (by decide)) dX6_renew_47 (Nat.le_of_ble_eq_true rfl) (fun _ _ h => h) (qkV (fun t7 h lt7 => ?_))
          refine gc_iinc C 2 (z36.1 + 1) [(2, .int (z36.1 + 1)), (0, .ref a0), (1, .ref a1)] dX6_renew_50 rfl rfl (by decide) rfl ?_
          refine gc_goto C 36 dX6_renew_53 (by decide) ?_
          refine gc_sub [1, 2, 0] rfl ?_
          have h9 := ih36 ((z36.1 + 1), t7) (kdLe.tr lz36 lt7) h
          exact h9
    exact k36 n36 (0, t6) (kdLe.rf _) h
  · have h := h.1 c8_1
    exact gc_vret C E (kdLe.rf _) dX6_renew_11 ⟨rfl, h⟩
def w_X11_played (B : Nat × Nat) (a0 : Nat) (t : CS) (Q : Nat → CS → Prop) (X : String → CS → Prop) : Prop := (kdC t a0 = 14) ∧ ((fR t 225 a0) ≠ none) ∧ ((fR t 224 a0) ≠ none) ∧ (kdC t (oG (fR t 225 a0)) = 9) ∧ w_X6_renew B (oG (fR t 225 a0)) (oG (fR t 224 a0)) t (fun t5 => ((fR t5 225 a0) ≠ none) ∧ Q (oG (fR t5 225 a0)) t5) X
set_option maxRecDepth 20000 in
set_option maxHeartbeats 2000000 in
theorem c_X11_played (l : Launch) (D : va_G) (K : Nat → ClassId) (E0 : Nat) (B : Nat × Nat) (A0 : Nat → Prop) (a0 : Nat) (t : CS) (Q : Nat → CS → Prop) (X : String → CS → Prop) (h : w_X11_played B a0 t Q X) : MetC l yX11_played cX11_played 1 (some (.object RX6)) 11 [.ref a0] (qR Q) X D K E0 B A0 t := by
  unfold w_X11_played at h
  refine gc_start (by decide) rfl (Nat.le_of_ble_eq_true rfl) (fun p e s m args below meth c C E => ?_)
  refine gc_aloadn C 0 0 dX11_played_0 rfl rfl ?_
  obtain ⟨g1, h⟩ := h
  obtain ⟨g2, h⟩ := h
  refine gc_getR C BX11 225 1 (by decide) rfl ft_225 vf_X11_19 rfl (isC_of g1 (by decide)) (oG (fR t 225 a0)) (oG_some g2) dX11_played_1 ?_
  refine gc_aloadn C 0 0 dX11_played_4 rfl rfl ?_
  obtain ⟨g3, h⟩ := h
  refine gc_getR C BX11 224 0 (by decide) rfl ft_224 vf_X11_10 rfl (isC_of g1 (by decide)) (oG (fR t 224 a0)) (oG_some g3) dX11_played_5 ?_
  obtain ⟨g4, h⟩ := h
  refine gc_callV C BX6 (y := yX6_renew) (as := [.ref (oG (fR t 224 a0))]) rfl (by decide) (by decide) (c_X6_renew l D K E0 B A0 (oG (fR t 225 a0)) (oG (fR t 224 a0)) t _ X h) hk_X6_renew rfl vl_X11_368 kc_X6_renew (isC_of g4 (by decide)) dX11_played_8 (Nat.le_of_ble_eq_true rfl) (fun _ _ h => h) (qkV (fun t5 h lt5 => ?_))
  refine gc_aloadn C 0 0 dX11_played_11 rfl rfl ?_
  obtain ⟨g6, h⟩ := h
  refine gc_getR C BX11 225 1 (by decide) rfl ft_225 vf_X11_19 rfl (isC_of (kdLe.k lt5 g1 (by decide) (by decide)) (by decide)) (oG (fR t5 225 a0)) (oG_some g6) dX11_played_12 ?_
  refine gc_ret0 ?_
  exact gc_aret (v := some (oG (fR t5 225 a0))) C E lt5 dX11_played_15 ⟨_, rfl, h⟩
def w_X11_places (B : Nat × Nat) (a0 : Nat) (t : CS) (Q : Int32 → CS → Prop) (X : String → CS → Prop) : Prop := (kdC t a0 = 14) ∧ w_X11_played B a0 t (fun r2 t2 => (kdC t2 r2 = 9) ∧ Q (fI t2 146 r2) t2) X
set_option maxRecDepth 20000 in
set_option maxHeartbeats 2000000 in
theorem c_X11_places (l : Launch) (D : va_G) (K : Nat → ClassId) (E0 : Nat) (B : Nat × Nat) (A0 : Nat → Prop) (a0 : Nat) (t : CS) (Q : Int32 → CS → Prop) (X : String → CS → Prop) (h : w_X11_places B a0 t Q X) : MetC l yX11_places cX11_places 1 (some .int) 12 [.ref a0] (qI Q) X D K E0 B A0 t := by
  unfold w_X11_places at h
  refine gc_start (by decide) rfl (Nat.le_of_ble_eq_true rfl) (fun p e s m args below meth c C E => ?_)
  refine gc_aloadn C 0 0 dX11_places_0 rfl rfl ?_
  obtain ⟨g1, h⟩ := h
  refine gc_callV C BX11 (y := yX11_played) (as := []) rfl (by decide) (by decide) (c_X11_played l D K E0 B A0 a0 t _ X h) hk_X11_played rfl vl_X11_231 kc_X11_played (isC_of g1 (by decide)) dX11_places_1 (Nat.le_of_ble_eq_true rfl) (fun _ _ h => h) (qkR (fun r2 t2 h lt2 => ?_))
  obtain ⟨g3, h⟩ := h
  refine gc_getI C BX6 146 2 (by decide) rfl ft_146 vf_X11_235 rfl (isC_of g3 (by decide)) dX11_places_4 ?_
  exact gc_iret C E lt2 dX11_places_7 ⟨_, rfl, h⟩
def w_X11_barAt (B : Nat × Nat) (a0 : Nat) (a1 : Int32) (t : CS) (Q : Int32 → CS → Prop) (X : String → CS → Prop) : Prop := (kdC t a0 = 14) ∧ w_X11_played B a0 t (fun r2 t2 => (kdC t2 r2 = 9) ∧ w_X11_requireIndex B a1 (fI t2 146 r2) t2 (fun t4 => ((fR t4 225 a0) ≠ none) ∧ (kdC t4 (oG (fR t4 225 a0)) = 9) ∧ (vp_in a1 (cLN 144)) ∧ Q (fA t4 144 (oG (fR t4 225 a0)) (Int32.toNatClampNeg a1)) t4) X) X
set_option maxRecDepth 20000 in
set_option maxHeartbeats 2000000 in
theorem c_X11_barAt (l : Launch) (D : va_G) (K : Nat → ClassId) (E0 : Nat) (B : Nat × Nat) (A0 : Nat → Prop) (a0 : Nat) (a1 : Int32) (t : CS) (Q : Int32 → CS → Prop) (X : String → CS → Prop) (h : w_X11_barAt B a0 a1 t Q X) : MetC l yX11_barAt cX11_barAt 2 (some .int) 12 [.ref a0, .int a1] (qI Q) X D K E0 B A0 t := by
  unfold w_X11_barAt at h
  refine gc_start (by decide) rfl (Nat.le_of_ble_eq_true rfl) (fun p e s m args below meth c C E => ?_)
  refine gc_iloadn C 1 1 dX11_barAt_0 rfl rfl ?_
  refine gc_aloadn C 0 0 dX11_barAt_1 rfl rfl ?_
  obtain ⟨g1, h⟩ := h
  refine gc_callV C BX11 (y := yX11_played) (as := []) rfl (by decide) (by decide) (c_X11_played l D K E0 B A0 a0 t _ X h) hk_X11_played rfl vl_X11_231 kc_X11_played (isC_of g1 (by decide)) dX11_barAt_2 (Nat.le_of_ble_eq_true rfl) (fun _ _ h => h) (qkR (fun r2 t2 h lt2 => ?_))
  obtain ⟨g3, h⟩ := h
  refine gc_getI C BX6 146 2 (by decide) rfl ft_146 vf_X11_235 rfl (isC_of g3 (by decide)) dX11_barAt_5 ?_
  refine gc_callS C (y := yX11_requireIndex) (as := [.int a1, .int (fI t2 146 r2)]) rfl (by decide) (by decide) (c_X11_requireIndex l D K E0 B A0 a1 (fI t2 146 r2) t2 _ X h) hk_X11_requireIndex rfl vl_X11_119 kc_X11_requireIndex dX11_barAt_8 (Nat.le_of_ble_eq_true rfl) (fun _ _ h => h) (qkV (fun t4 h lt4 => ?_))
  refine gc_aloadn C 0 0 dX11_barAt_11 rfl rfl ?_
  obtain ⟨g5, h⟩ := h
  refine gc_getR C BX11 225 1 (by decide) rfl ft_225 vf_X11_19 rfl (isC_of (kdLe.k (kdLe.tr lt2 lt4) g1 (by decide) (by decide)) (by decide)) (oG (fR t4 225 a0)) (oG_some g5) dX11_barAt_12 ?_
  obtain ⟨g6, h⟩ := h
  refine gc_getE C BX6 144 0 (by decide) rfl fe_144 vf_X11_238 rfl g6 dX11_barAt_15 ?_
  refine gc_iloadn C 1 1 dX11_barAt_18 rfl rfl ?_
  obtain ⟨g7, h⟩ := h
  refine gc_iald C (ci := 9) (k0 := 0) 144 (by decide) (by decide) (by decide) rfl ft_144 (by decide) g6 g7 dX11_barAt_19 ?_
  exact gc_iret C E (kdLe.tr lt2 lt4) dX11_barAt_20 ⟨_, rfl, h⟩
def w_X11_startOf (B : Nat × Nat) (a0 : Nat) (a1 : Int32) (t : CS) (Q : Int32 → CS → Prop) (X : String → CS → Prop) : Prop := (kdC t a0 = 14) ∧ w_X11_played B a0 t (fun r2 t2 => (kdC t2 r2 = 9) ∧ w_X11_requireIndex B a1 (fI t2 146 r2) t2 (fun t4 => ((fR t4 225 a0) ≠ none) ∧ (kdC t4 (oG (fR t4 225 a0)) = 9) ∧ (vp_in a1 (cLN 145)) ∧ Q (fA t4 145 (oG (fR t4 225 a0)) (Int32.toNatClampNeg a1)) t4) X) X
set_option maxRecDepth 20000 in
set_option maxHeartbeats 2000000 in
theorem c_X11_startOf (l : Launch) (D : va_G) (K : Nat → ClassId) (E0 : Nat) (B : Nat × Nat) (A0 : Nat → Prop) (a0 : Nat) (a1 : Int32) (t : CS) (Q : Int32 → CS → Prop) (X : String → CS → Prop) (h : w_X11_startOf B a0 a1 t Q X) : MetC l yX11_startOf cX11_startOf 2 (some .int) 12 [.ref a0, .int a1] (qI Q) X D K E0 B A0 t := by
  unfold w_X11_startOf at h
  refine gc_start (by decide) rfl (Nat.le_of_ble_eq_true rfl) (fun p e s m args below meth c C E => ?_)
  refine gc_iloadn C 1 1 dX11_startOf_0 rfl rfl ?_
  refine gc_aloadn C 0 0 dX11_startOf_1 rfl rfl ?_
  obtain ⟨g1, h⟩ := h
  refine gc_callV C BX11 (y := yX11_played) (as := []) rfl (by decide) (by decide) (c_X11_played l D K E0 B A0 a0 t _ X h) hk_X11_played rfl vl_X11_231 kc_X11_played (isC_of g1 (by decide)) dX11_startOf_2 (Nat.le_of_ble_eq_true rfl) (fun _ _ h => h) (qkR (fun r2 t2 h lt2 => ?_))
  obtain ⟨g3, h⟩ := h
  refine gc_getI C BX6 146 2 (by decide) rfl ft_146 vf_X11_235 rfl (isC_of g3 (by decide)) dX11_startOf_5 ?_
  refine gc_callS C (y := yX11_requireIndex) (as := [.int a1, .int (fI t2 146 r2)]) rfl (by decide) (by decide) (c_X11_requireIndex l D K E0 B A0 a1 (fI t2 146 r2) t2 _ X h) hk_X11_requireIndex rfl vl_X11_119 kc_X11_requireIndex dX11_startOf_8 (Nat.le_of_ble_eq_true rfl) (fun _ _ h => h) (qkV (fun t4 h lt4 => ?_))
  refine gc_aloadn C 0 0 dX11_startOf_11 rfl rfl ?_
  obtain ⟨g5, h⟩ := h
  refine gc_getR C BX11 225 1 (by decide) rfl ft_225 vf_X11_19 rfl (isC_of (kdLe.k (kdLe.tr lt2 lt4) g1 (by decide) (by decide)) (by decide)) (oG (fR t4 225 a0)) (oG_some g5) dX11_startOf_12 ?_
  obtain ⟨g6, h⟩ := h
  refine gc_getE C BX6 145 1 (by decide) rfl fe_145 vf_X11_241 rfl g6 dX11_startOf_15 ?_
  refine gc_iloadn C 1 1 dX11_startOf_18 rfl rfl ?_
  obtain ⟨g7, h⟩ := h
  refine gc_iald C (ci := 9) (k0 := 1) 145 (by decide) (by decide) (by decide) rfl ft_145 (by decide) g6 g7 dX11_startOf_19 ?_
  exact gc_iret C E (kdLe.tr lt2 lt4) dX11_startOf_20 ⟨_, rfl, h⟩
def w_X11_playingTime (B : Nat × Nat) (a0 : Nat) (t : CS) (Q : Int32 → CS → Prop) (X : String → CS → Prop) : Prop := (kdC t a0 = 14) ∧ w_X11_played B a0 t (fun r2 t2 => (kdC t2 r2 = 9) ∧ Q (fI t2 147 r2) t2) X
set_option maxRecDepth 20000 in
set_option maxHeartbeats 2000000 in
theorem c_X11_playingTime (l : Launch) (D : va_G) (K : Nat → ClassId) (E0 : Nat) (B : Nat × Nat) (A0 : Nat → Prop) (a0 : Nat) (t : CS) (Q : Int32 → CS → Prop) (X : String → CS → Prop) (h : w_X11_playingTime B a0 t Q X) : MetC l yX11_playingTime cX11_playingTime 1 (some .int) 12 [.ref a0] (qI Q) X D K E0 B A0 t := by
  unfold w_X11_playingTime at h
  refine gc_start (by decide) rfl (Nat.le_of_ble_eq_true rfl) (fun p e s m args below meth c C E => ?_)
  refine gc_aloadn C 0 0 dX11_playingTime_0 rfl rfl ?_
  obtain ⟨g1, h⟩ := h
  refine gc_callV C BX11 (y := yX11_played) (as := []) rfl (by decide) (by decide) (c_X11_played l D K E0 B A0 a0 t _ X h) hk_X11_played rfl vl_X11_231 kc_X11_played (isC_of g1 (by decide)) dX11_playingTime_1 (Nat.le_of_ble_eq_true rfl) (fun _ _ h => h) (qkR (fun r2 t2 h lt2 => ?_))
  obtain ⟨g3, h⟩ := h
  refine gc_getI C BX6 147 3 (by decide) rfl ft_147 vf_X11_244 rfl (isC_of g3 (by decide)) dX11_playingTime_4 ?_
  exact gc_iret C E lt2 dX11_playingTime_7 ⟨_, rfl, h⟩
def w_X6_timeOfEvents_L5 (B : Nat × Nat) (a0 : Nat) (a1 : Nat) (a2 : Int32) (Q : Int32 → CS → Prop) (X : String → CS → Prop) (K5 : (Int32 × Int32 × CS) → Prop) (z5 : Int32 × Int32 × CS) : Prop := (kdC z5.2.2 a0 = 9) ∧ (((fI z5.2.2 146 a0) ≤ z5.2.1) → Q z5.1 z5.2.2) ∧ (¬ ((fI z5.2.2 146 a0) ≤ z5.2.1) → (vp_in z5.2.1 (cLN 144)) ∧ ∀ x3 : Int32, x3 = (fA z5.2.2 144 a0 (Int32.toNatClampNeg z5.2.1)) → (kdC z5.2.2 a1 = 12) ∧ (d_X9_row a1 a2 x3 z5.2.2) ∧ (kdC z5.2.2 (v_X9_row a1 a2 x3 z5.2.2) = 11) ∧ (d_X8_isEmpty (v_X9_row a1 a2 x3 z5.2.2) z5.2.2) ∧ ∃ J64 : Int32 → CS → Prop, (∀ x8 : Int32, ∀ t9 : CS, J64 x8 t9 → (∀ x10 : Int32, x10 = (z5.1 + x8) → K5 (x10, (z5.2.1 + 1), t9))) ∧ ((((v_X8_isEmpty (v_X9_row a1 a2 x3 z5.2.2) z5.2.2) = 0) → w_X9_tempoAt B a1 x3 z5.2.2 (fun r11 t11 => (d_X9_timeOf (fI z5.2.2 177 (v_X9_row a1 a2 x3 z5.2.2)) r11) ∧ J64 (v_X9_timeOf (fI z5.2.2 177 (v_X9_row a1 a2 x3 z5.2.2)) r11) t11) X) ∧ (¬ ((v_X8_isEmpty (v_X9_row a1 a2 x3 z5.2.2) z5.2.2) = 0) → w_X9_timeOfBar B a1 x3 z5.2.2 (fun r13 t13 => J64 r13 t13) X)))
def w_X6_timeOfEvents (B : Nat × Nat) (a0 : Nat) (a1 : Nat) (a2 : Int32) (t : CS) (Q : Int32 → CS → Prop) (X : String → CS → Prop) : Prop := ∃ n, lp (w_X6_timeOfEvents_L5 B a0 a1 a2 Q X) n (0, 0, t)
set_option maxRecDepth 20000 in
set_option maxHeartbeats 2000000 in
theorem c_X6_timeOfEvents (l : Launch) (D : va_G) (K : Nat → ClassId) (E0 : Nat) (B : Nat × Nat) (A0 : Nat → Prop) (a0 : Nat) (a1 : Nat) (a2 : Int32) (t : CS) (Q : Int32 → CS → Prop) (X : String → CS → Prop) (h : w_X6_timeOfEvents B a0 a1 a2 t Q X) : MetC l yX6_timeOfEvents cX6_timeOfEvents 7 (some .int) 5 [.ref a0, .ref a1, .int a2] (qI Q) X D K E0 B A0 t := by
  unfold w_X6_timeOfEvents at h
  refine gc_start (by decide) rfl (Nat.le_of_ble_eq_true rfl) (fun p e s m args below meth c C E => ?_)
  refine gc_iconst C 0 dX6_timeOfEvents_0 (by decide) ?_
  refine gc_istoren C 3 [(3, .int 0), (0, .ref a0), (1, .ref a1), (2, .int a2)] dX6_timeOfEvents_1 rfl (by decide) rfl ?_
  refine gc_iconst C 0 dX6_timeOfEvents_2 (by decide) ?_
  refine gc_istore C [(4, .int 0), (3, .int 0), (0, .ref a0), (1, .ref a1), (2, .int a2)] dX6_timeOfEvents_3 (by decide) rfl ?_
  refine gc_sub [2, 3, 4, 1, 0] rfl ?_
  obtain ⟨n5, h⟩ := h
  have k5 : ∀ (n5 : Nat) (z5 : Int32 × Int32 × CS), kdLe t z5.2.2 → lp (w_X6_timeOfEvents_L5 B a0 a1 a2 Q X) n5 z5 → GC p l e (rmC 5 B t) s m args below meth c 7 D K E0 B A0 (gc_Q below D K E0 A0 (qI Q) X args s t (rmC 5 B t)) z5.2.2 5 [(0, .ref a0), (1, .ref a1), (2, .int a2), (3, .int z5.1), (4, .int z5.2.1)] [] := by
    intro n5
    induction n5 with
    | zero => intro z5 lz5 h; exact h.elim
    | succ n5 ih5 =>
      intro z5 lz5 h
      have h : w_X6_timeOfEvents_L5 B a0 a1 a2 Q X (lp (w_X6_timeOfEvents_L5 B a0 a1 a2 Q X) n5) z5 := h
      unfold w_X6_timeOfEvents_L5 at h
      refine gc_iload C 4 dX6_timeOfEvents_5 rfl ?_
      refine gc_aloadn C 0 0 dX6_timeOfEvents_7 rfl rfl ?_
      obtain ⟨g1, h⟩ := h
      refine gc_getI C BX6 146 2 (by decide) rfl ft_146 vf_X6_54 rfl (isC_of g1 (by decide)) dX6_timeOfEvents_8 ?_
      refine gc_icmp_ge C 72 dX6_timeOfEvents_11 (by decide) (fun c11_1 => ?_) (fun c11_1 => ?_)
      · have h := h.1 c11_1
        refine gc_iloadn C 3 3 dX6_timeOfEvents_72 rfl rfl ?_
        exact gc_iret C E lz5 dX6_timeOfEvents_73 ⟨_, rfl, h⟩
      · have h := h.2 c11_1
        refine gc_aloadn C 0 0 dX6_timeOfEvents_14 rfl rfl ?_
        refine gc_getE C BX6 144 0 (by decide) rfl fe_144 vf_X6_11 rfl g1 dX6_timeOfEvents_15 ?_
        refine gc_iload C 4 dX6_timeOfEvents_18 rfl ?_
        obtain ⟨g2, h⟩ := h
        refine gc_iald C (ci := 9) (k0 := 0) 144 (by decide) (by decide) (by decide) rfl ft_144 (by decide) g1 g2 dX6_timeOfEvents_20 ?_
        refine gc_nameI (fun x3 ex3 => ?_)
        have h := h x3 ex3
        refine gc_istore C [(5, .int x3), (0, .ref a0), (1, .ref a1), (2, .int a2), (3, .int z5.1), (4, .int z5.2.1)] dX6_timeOfEvents_21 (by decide) rfl ?_
        refine gc_aloadn C 2 1 dX6_timeOfEvents_23 rfl rfl ?_
        refine gc_iloadn C 3 2 dX6_timeOfEvents_24 rfl rfl ?_
        refine gc_iload C 0 dX6_timeOfEvents_25 rfl ?_
        obtain ⟨g4, h⟩ := h
        obtain ⟨g5, h⟩ := h
        refine gc_callV C BX9 (y := yX9_row) (as := [.int a2, .int x3]) rfl (by decide) (by decide) (c_X9_row l D K E0 B A0 a1 a2 x3 z5.2.2 g5) hk_X9_row rfl vl_X6_119 kc_X9_row (isC_of g4 (by decide)) dX6_timeOfEvents_27 (Nat.le_of_ble_eq_true rfl) (fun _ _ h => h.elim) (qkRP ?_)
        refine gc_astore C [(6, .ref (v_X9_row a1 a2 x3 z5.2.2)), (5, .int x3), (0, .ref a0), (1, .ref a1), (2, .int a2), (3, .int z5.1), (4, .int z5.2.1)] dX6_timeOfEvents_30 (by decide) rfl ?_
        refine gc_iloadn C 5 3 dX6_timeOfEvents_32 rfl rfl ?_
        refine gc_aload C 0 dX6_timeOfEvents_33 rfl ?_
        obtain ⟨g6, h⟩ := h
        obtain ⟨g7, h⟩ := h
        refine gc_callV C BX8 (y := yX8_isEmpty) (as := []) rfl (by decide) (by decide) (c_X8_isEmpty l D K E0 B A0 (v_X9_row a1 a2 x3 z5.2.2) z5.2.2 g7) hk_X8_isEmpty rfl vl_X6_152 kc_X8_isEmpty (isC_of g6 (by decide)) dX6_timeOfEvents_35 (Nat.le_of_ble_eq_true rfl) (fun _ _ h => h.elim) (qkIP ?_)
        obtain ⟨J64, hJ64, h⟩ := h
        have k64 : ∀ x8 : Int32, ∀ t9 : CS, kdLe z5.2.2 t9 → J64 x8 t9 → GC p l e (rmC 5 B t) s m args below meth c 7 D K E0 B A0 (gc_Q below D K E0 A0 (qI Q) X args s t (rmC 5 B t)) t9 64 [(0, .ref a0), (1, .ref a1), (2, .int a2), (4, .int z5.2.1)] [.int x8, .int z5.1] := by
          intro x8 t9 lt9 h
          have h := hJ64 x8 t9 h
          refine gc_iadd C dX6_timeOfEvents_64 ?_
          refine gc_nameI (fun x10 ex10 => ?_)
          have h := h x10 ex10
          refine gc_istoren C 3 [(3, .int x10), (0, .ref a0), (1, .ref a1), (2, .int a2), (4, .int z5.2.1)] dX6_timeOfEvents_65 rfl (by decide) rfl ?_
          refine gc_iinc C 4 (z5.2.1 + 1) [(4, .int (z5.2.1 + 1)), (3, .int x10), (0, .ref a0), (1, .ref a1), (2, .int a2)] dX6_timeOfEvents_66 rfl rfl (by decide) rfl ?_
          refine gc_goto C 5 dX6_timeOfEvents_69 (by decide) ?_
          refine gc_sub [2, 3, 4, 1, 0] rfl ?_
          have h9 := ih5 (x10, (z5.2.1 + 1), t9) (kdLe.tr lz5 lt9) h
          exact h9
        refine gc_if_eq C 50 dX6_timeOfEvents_38 (by decide) (fun c38_2 => ?_) (fun c38_2 => ?_)
        · have h := h.1 c38_2
          refine gc_aload C 0 dX6_timeOfEvents_50 rfl ?_
          refine gc_getI C BX8 177 1 (by decide) rfl ft_177 vf_X6_175 rfl (isC_of g6 (by decide)) dX6_timeOfEvents_52 ?_
          refine gc_aloadn C 3 1 dX6_timeOfEvents_55 rfl rfl ?_
          refine gc_iload C 1 dX6_timeOfEvents_56 rfl ?_
          refine gc_callV C BX9 (y := yX9_tempoAt) (as := [.int x3]) rfl (by decide) (by decide) (c_X9_tempoAt l D K E0 B A0 a1 x3 z5.2.2 _ X h) hk_X9_tempoAt rfl vl_X6_97 kc_X9_tempoAt (isC_of g4 (by decide)) dX6_timeOfEvents_58 (Nat.le_of_ble_eq_true rfl) (fun _ _ h => h) (qkI (fun r11 t11 h lt11 => ?_))
          obtain ⟨g12, h⟩ := h
          refine gc_callS C (y := yX9_timeOf) (as := [.int (fI z5.2.2 177 (v_X9_row a1 a2 x3 z5.2.2)), .int r11]) rfl (by decide) (by decide) (c_X9_timeOf l D K E0 B A0 (fI z5.2.2 177 (v_X9_row a1 a2 x3 z5.2.2)) r11 t11 g12) hk_X9_timeOf rfl vl_X6_126 kc_X9_timeOf dX6_timeOfEvents_61 (Nat.le_of_ble_eq_true rfl) (fun _ _ h => h.elim) (qkIP ?_)
          refine gc_sub [2, 3, 4, 6] rfl ?_
          exact k64 (v_X9_timeOf (fI z5.2.2 177 (v_X9_row a1 a2 x3 z5.2.2)) r11) t11 lt11 h
        · have h := h.2 c38_2
          refine gc_aloadn C 3 1 dX6_timeOfEvents_41 rfl rfl ?_
          refine gc_iload C 1 dX6_timeOfEvents_42 rfl ?_
          refine gc_callV C BX9 (y := yX9_timeOfBar) (as := [.int x3]) rfl (by decide) (by decide) (c_X9_timeOfBar l D K E0 B A0 a1 x3 z5.2.2 _ X h) hk_X9_timeOfBar rfl vl_X6_90 kc_X9_timeOfBar (isC_of g4 (by decide)) dX6_timeOfEvents_44 (Nat.le_of_ble_eq_true rfl) (fun _ _ h => h) (qkI (fun r13 t13 h lt13 => ?_))
          refine gc_goto C 64 dX6_timeOfEvents_47 (by decide) ?_
          refine gc_sub [2, 3, 4, 6] rfl ?_
          exact k64 r13 t13 lt13 h
  exact k5 n5 (0, 0, t) (kdLe.rf _) h
def w_X11_timeByEvents (B : Nat × Nat) (a0 : Nat) (a1 : Int32) (t : CS) (Q : Int32 → CS → Prop) (X : String → CS → Prop) : Prop := w_X11_requireVoice B a1 t (fun t1 => (kdC t1 a0 = 14) ∧ w_X11_played B a0 t1 (fun r3 t3 => ((fR t3 224 a0) ≠ none) ∧ (kdC t3 r3 = 9) ∧ w_X6_timeOfEvents B r3 (oG (fR t3 224 a0)) a1 t3 (fun r6 t6 => Q r6 t6) X) X) X
set_option maxRecDepth 20000 in
set_option maxHeartbeats 2000000 in
theorem c_X11_timeByEvents (l : Launch) (D : va_G) (K : Nat → ClassId) (E0 : Nat) (B : Nat × Nat) (A0 : Nat → Prop) (a0 : Nat) (a1 : Int32) (t : CS) (Q : Int32 → CS → Prop) (X : String → CS → Prop) (h : w_X11_timeByEvents B a0 a1 t Q X) : MetC l yX11_timeByEvents cX11_timeByEvents 2 (some .int) 12 [.ref a0, .int a1] (qI Q) X D K E0 B A0 t := by
  unfold w_X11_timeByEvents at h
  refine gc_start (by decide) rfl (Nat.le_of_ble_eq_true rfl) (fun p e s m args below meth c C E => ?_)
  refine gc_iloadn C 1 1 dX11_timeByEvents_0 rfl rfl ?_
  refine gc_callS C (y := yX11_requireVoice) (as := [.int a1]) rfl (by decide) (by decide) (c_X11_requireVoice l D K E0 B A0 a1 t _ X h) hk_X11_requireVoice rfl vl_X11_102 kc_X11_requireVoice dX11_timeByEvents_1 (Nat.le_of_ble_eq_true rfl) (fun _ _ h => h) (qkV (fun t1 h lt1 => ?_))
  refine gc_aloadn C 0 0 dX11_timeByEvents_4 rfl rfl ?_
  obtain ⟨g2, h⟩ := h
  refine gc_callV C BX11 (y := yX11_played) (as := []) rfl (by decide) (by decide) (c_X11_played l D K E0 B A0 a0 t1 _ X h) hk_X11_played rfl vl_X11_231 kc_X11_played (isC_of g2 (by decide)) dX11_timeByEvents_5 (Nat.le_of_ble_eq_true rfl) (fun _ _ h => h) (qkR (fun r3 t3 h lt3 => ?_))
  refine gc_aloadn C 0 0 dX11_timeByEvents_8 rfl rfl ?_
  obtain ⟨g4, h⟩ := h
  refine gc_getR C BX11 224 0 (by decide) rfl ft_224 vf_X11_10 rfl (isC_of (kdLe.k lt3 g2 (by decide) (by decide)) (by decide)) (oG (fR t3 224 a0)) (oG_some g4) dX11_timeByEvents_9 ?_
  refine gc_iloadn C 1 1 dX11_timeByEvents_12 rfl rfl ?_
  obtain ⟨g5, h⟩ := h
  refine gc_callV C BX6 (y := yX6_timeOfEvents) (as := [.ref (oG (fR t3 224 a0)), .int a1]) rfl (by decide) (by decide) (c_X6_timeOfEvents l D K E0 B A0 r3 (oG (fR t3 224 a0)) a1 t3 _ X h) hk_X6_timeOfEvents rfl vl_X11_247 kc_X6_timeOfEvents (isC_of g5 (by decide)) dX11_timeByEvents_13 (Nat.le_of_ble_eq_true rfl) (fun _ _ h => h) (qkI (fun r6 t6 h lt6 => ?_))
  exact gc_iret C E (kdLe.tr lt1 (kdLe.tr lt3 lt6)) dX11_timeByEvents_16 ⟨_, rfl, h⟩
def w_X11_sounds (B : Nat × Nat) (a0 : Nat) (t : CS) (Q : Int32 → CS → Prop) (X : String → CS → Prop) : Prop := (kdC t a0 = 14) ∧ w_X11_played B a0 t (fun r2 t2 => (kdC t2 r2 = 9) ∧ Q (fI t2 149 r2) t2) X
set_option maxRecDepth 20000 in
set_option maxHeartbeats 2000000 in
theorem c_X11_sounds (l : Launch) (D : va_G) (K : Nat → ClassId) (E0 : Nat) (B : Nat × Nat) (A0 : Nat → Prop) (a0 : Nat) (t : CS) (Q : Int32 → CS → Prop) (X : String → CS → Prop) (h : w_X11_sounds B a0 t Q X) : MetC l yX11_sounds cX11_sounds 1 (some .int) 12 [.ref a0] (qI Q) X D K E0 B A0 t := by
  unfold w_X11_sounds at h
  refine gc_start (by decide) rfl (Nat.le_of_ble_eq_true rfl) (fun p e s m args below meth c C E => ?_)
  refine gc_aloadn C 0 0 dX11_sounds_0 rfl rfl ?_
  obtain ⟨g1, h⟩ := h
  refine gc_callV C BX11 (y := yX11_played) (as := []) rfl (by decide) (by decide) (c_X11_played l D K E0 B A0 a0 t _ X h) hk_X11_played rfl vl_X11_231 kc_X11_played (isC_of g1 (by decide)) dX11_sounds_1 (Nat.le_of_ble_eq_true rfl) (fun _ _ h => h) (qkR (fun r2 t2 h lt2 => ?_))
  obtain ⟨g3, h⟩ := h
  refine gc_getI C BX6 149 5 (by decide) rfl ft_149 vf_X11_251 rfl (isC_of g3 (by decide)) dX11_sounds_4 ?_
  exact gc_iret C E lt2 dX11_sounds_7 ⟨_, rfl, h⟩
def w_X11_requiredSound (B : Nat × Nat) (a0 : Nat) (a1 : Int32) (t : CS) (Q : Nat → CS → Prop) (X : String → CS → Prop) : Prop := (kdC t a0 = 14) ∧ ((fR t 225 a0) ≠ none) ∧ ((fR t 224 a0) ≠ none) ∧ (kdC t (oG (fR t 225 a0)) = 9) ∧ w_X6_renew B (oG (fR t 225 a0)) (oG (fR t 224 a0)) t (fun t5 => ((fR t5 225 a0) ≠ none) ∧ (kdC t5 (oG (fR t5 225 a0)) = 9) ∧ w_X11_requireIndex B a1 (fI t5 149 (oG (fR t5 225 a0))) t5 (fun t8 => ((fR t8 225 a0) ≠ none) ∧ (kdC t8 (oG (fR t8 225 a0)) = 9) ∧ (lIn t8 148 (oG (fR t8 225 a0)) a1) ∧ (kdC t8 (lG t8 148 (oG (fR t8 225 a0)) a1) = 13) ∧ Q (lG t8 148 (oG (fR t8 225 a0)) a1) t8) X) X
set_option maxRecDepth 20000 in
set_option maxHeartbeats 2000000 in
theorem c_X11_requiredSound (l : Launch) (D : va_G) (K : Nat → ClassId) (E0 : Nat) (B : Nat × Nat) (A0 : Nat → Prop) (a0 : Nat) (a1 : Int32) (t : CS) (Q : Nat → CS → Prop) (X : String → CS → Prop) (h : w_X11_requiredSound B a0 a1 t Q X) : MetC l yX11_requiredSound cX11_requiredSound 2 (some (.object RX10)) 11 [.ref a0, .int a1] (qR Q) X D K E0 B A0 t := by
  unfold w_X11_requiredSound at h
  refine gc_start (by decide) rfl (Nat.le_of_ble_eq_true rfl) (fun p e s m args below meth c C E => ?_)
  refine gc_aloadn C 0 0 dX11_requiredSound_0 rfl rfl ?_
  obtain ⟨g1, h⟩ := h
  obtain ⟨g2, h⟩ := h
  refine gc_getR C BX11 225 1 (by decide) rfl ft_225 vf_X11_19 rfl (isC_of g1 (by decide)) (oG (fR t 225 a0)) (oG_some g2) dX11_requiredSound_1 ?_
  refine gc_aloadn C 0 0 dX11_requiredSound_4 rfl rfl ?_
  obtain ⟨g3, h⟩ := h
  refine gc_getR C BX11 224 0 (by decide) rfl ft_224 vf_X11_10 rfl (isC_of g1 (by decide)) (oG (fR t 224 a0)) (oG_some g3) dX11_requiredSound_5 ?_
  obtain ⟨g4, h⟩ := h
  refine gc_callV C BX6 (y := yX6_renew) (as := [.ref (oG (fR t 224 a0))]) rfl (by decide) (by decide) (c_X6_renew l D K E0 B A0 (oG (fR t 225 a0)) (oG (fR t 224 a0)) t _ X h) hk_X6_renew rfl vl_X11_368 kc_X6_renew (isC_of g4 (by decide)) dX11_requiredSound_8 (Nat.le_of_ble_eq_true rfl) (fun _ _ h => h) (qkV (fun t5 h lt5 => ?_))
  refine gc_iloadn C 1 1 dX11_requiredSound_11 rfl rfl ?_
  refine gc_aloadn C 0 0 dX11_requiredSound_12 rfl rfl ?_
  obtain ⟨g6, h⟩ := h
  refine gc_getR C BX11 225 1 (by decide) rfl ft_225 vf_X11_19 rfl (isC_of (kdLe.k lt5 g1 (by decide) (by decide)) (by decide)) (oG (fR t5 225 a0)) (oG_some g6) dX11_requiredSound_13 ?_
  obtain ⟨g7, h⟩ := h
  refine gc_getI C BX6 149 5 (by decide) rfl ft_149 vf_X11_251 rfl (isC_of g7 (by decide)) dX11_requiredSound_16 ?_
  refine gc_callS C (y := yX11_requireIndex) (as := [.int a1, .int (fI t5 149 (oG (fR t5 225 a0)))]) rfl (by decide) (by decide) (c_X11_requireIndex l D K E0 B A0 a1 (fI t5 149 (oG (fR t5 225 a0))) t5 _ X h) hk_X11_requireIndex rfl vl_X11_119 kc_X11_requireIndex dX11_requiredSound_19 (Nat.le_of_ble_eq_true rfl) (fun _ _ h => h) (qkV (fun t8 h lt8 => ?_))
  refine gc_aloadn C 0 0 dX11_requiredSound_22 rfl rfl ?_
  obtain ⟨g9, h⟩ := h
  refine gc_getR C BX11 225 1 (by decide) rfl ft_225 vf_X11_19 rfl (isC_of (kdLe.k (kdLe.tr lt5 lt8) g1 (by decide) (by decide)) (by decide)) (oG (fR t8 225 a0)) (oG_some g9) dX11_requiredSound_23 ?_
  obtain ⟨g10, h⟩ := h
  refine gc_getE C BX6 148 4 (by decide) rfl fe_148 vf_X11_372 rfl g10 dX11_requiredSound_26 ?_
  refine gc_iloadn C 1 1 dX11_requiredSound_29 rfl rfl ?_
  obtain ⟨g11, h⟩ := h
  refine gc_lsGet C (ci := 9) (k0 := 4) 148 (by decide) (by decide) (by decide) rfl ft_148 rfl (by decide) g10 g11 vj_X11_194 dX11_requiredSound_30 (Nat.le_of_ble_eq_true rfl) ?_
  obtain ⟨g12, h⟩ := h
  refine gc_cast C BX10 v_i928 (isC_of g12 (by decide)) dX11_requiredSound_33 ?_
  refine gc_ret0 ?_
  exact gc_aret (v := some (lG t8 148 (oG (fR t8 225 a0)) a1)) C E (kdLe.tr lt5 lt8) dX11_requiredSound_36 ⟨_, rfl, h⟩
def w_X11_soundVoice (B : Nat × Nat) (a0 : Nat) (a1 : Int32) (t : CS) (Q : Int32 → CS → Prop) (X : String → CS → Prop) : Prop := (kdC t a0 = 14) ∧ w_X11_requiredSound B a0 a1 t (fun r2 t2 => (kdC t2 r2 = 13) ∧ Q (fI t2 208 r2) t2) X
set_option maxRecDepth 20000 in
set_option maxHeartbeats 2000000 in
theorem c_X11_soundVoice (l : Launch) (D : va_G) (K : Nat → ClassId) (E0 : Nat) (B : Nat × Nat) (A0 : Nat → Prop) (a0 : Nat) (a1 : Int32) (t : CS) (Q : Int32 → CS → Prop) (X : String → CS → Prop) (h : w_X11_soundVoice B a0 a1 t Q X) : MetC l yX11_soundVoice cX11_soundVoice 2 (some .int) 12 [.ref a0, .int a1] (qI Q) X D K E0 B A0 t := by
  unfold w_X11_soundVoice at h
  refine gc_start (by decide) rfl (Nat.le_of_ble_eq_true rfl) (fun p e s m args below meth c C E => ?_)
  refine gc_aloadn C 0 0 dX11_soundVoice_0 rfl rfl ?_
  refine gc_iloadn C 1 1 dX11_soundVoice_1 rfl rfl ?_
  obtain ⟨g1, h⟩ := h
  refine gc_callV C BX11 (y := yX11_requiredSound) (as := [.int a1]) rfl (by decide) (by decide) (c_X11_requiredSound l D K E0 B A0 a0 a1 t _ X h) hk_X11_requiredSound rfl vl_X11_254 kc_X11_requiredSound (isC_of g1 (by decide)) dX11_soundVoice_2 (Nat.le_of_ble_eq_true rfl) (fun _ _ h => h) (qkR (fun r2 t2 h lt2 => ?_))
  obtain ⟨g3, h⟩ := h
  refine gc_getI C BX10 208 0 (by decide) rfl ft_208 vf_X11_258 rfl (isC_of g3 (by decide)) dX11_soundVoice_5 ?_
  exact gc_iret C E lt2 dX11_soundVoice_8 ⟨_, rfl, h⟩
def w_X11_soundStart (B : Nat × Nat) (a0 : Nat) (a1 : Int32) (t : CS) (Q : Int32 → CS → Prop) (X : String → CS → Prop) : Prop := (kdC t a0 = 14) ∧ w_X11_requiredSound B a0 a1 t (fun r2 t2 => (kdC t2 r2 = 13) ∧ Q (fI t2 209 r2) t2) X
set_option maxRecDepth 20000 in
set_option maxHeartbeats 2000000 in
theorem c_X11_soundStart (l : Launch) (D : va_G) (K : Nat → ClassId) (E0 : Nat) (B : Nat × Nat) (A0 : Nat → Prop) (a0 : Nat) (a1 : Int32) (t : CS) (Q : Int32 → CS → Prop) (X : String → CS → Prop) (h : w_X11_soundStart B a0 a1 t Q X) : MetC l yX11_soundStart cX11_soundStart 2 (some .int) 12 [.ref a0, .int a1] (qI Q) X D K E0 B A0 t := by
  unfold w_X11_soundStart at h
  refine gc_start (by decide) rfl (Nat.le_of_ble_eq_true rfl) (fun p e s m args below meth c C E => ?_)
  refine gc_aloadn C 0 0 dX11_soundStart_0 rfl rfl ?_
  refine gc_iloadn C 1 1 dX11_soundStart_1 rfl rfl ?_
  obtain ⟨g1, h⟩ := h
  refine gc_callV C BX11 (y := yX11_requiredSound) (as := [.int a1]) rfl (by decide) (by decide) (c_X11_requiredSound l D K E0 B A0 a0 a1 t _ X h) hk_X11_requiredSound rfl vl_X11_254 kc_X11_requiredSound (isC_of g1 (by decide)) dX11_soundStart_2 (Nat.le_of_ble_eq_true rfl) (fun _ _ h => h) (qkR (fun r2 t2 h lt2 => ?_))
  obtain ⟨g3, h⟩ := h
  refine gc_getI C BX10 209 1 (by decide) rfl ft_209 vf_X11_263 rfl (isC_of g3 (by decide)) dX11_soundStart_5 ?_
  exact gc_iret C E lt2 dX11_soundStart_8 ⟨_, rfl, h⟩
def w_X11_soundTime (B : Nat × Nat) (a0 : Nat) (a1 : Int32) (t : CS) (Q : Int32 → CS → Prop) (X : String → CS → Prop) : Prop := (kdC t a0 = 14) ∧ w_X11_requiredSound B a0 a1 t (fun r2 t2 => (kdC t2 r2 = 13) ∧ Q ((fI t2 210 r2) - (fI t2 209 r2)) t2) X
set_option maxRecDepth 20000 in
set_option maxHeartbeats 2000000 in
theorem c_X11_soundTime (l : Launch) (D : va_G) (K : Nat → ClassId) (E0 : Nat) (B : Nat × Nat) (A0 : Nat → Prop) (a0 : Nat) (a1 : Int32) (t : CS) (Q : Int32 → CS → Prop) (X : String → CS → Prop) (h : w_X11_soundTime B a0 a1 t Q X) : MetC l yX11_soundTime cX11_soundTime 3 (some .int) 12 [.ref a0, .int a1] (qI Q) X D K E0 B A0 t := by
  unfold w_X11_soundTime at h
  refine gc_start (by decide) rfl (Nat.le_of_ble_eq_true rfl) (fun p e s m args below meth c C E => ?_)
  refine gc_aloadn C 0 0 dX11_soundTime_0 rfl rfl ?_
  refine gc_iloadn C 1 1 dX11_soundTime_1 rfl rfl ?_
  obtain ⟨g1, h⟩ := h
  refine gc_callV C BX11 (y := yX11_requiredSound) (as := [.int a1]) rfl (by decide) (by decide) (c_X11_requiredSound l D K E0 B A0 a0 a1 t _ X h) hk_X11_requiredSound rfl vl_X11_254 kc_X11_requiredSound (isC_of g1 (by decide)) dX11_soundTime_2 (Nat.le_of_ble_eq_true rfl) (fun _ _ h => h) (qkR (fun r2 t2 h lt2 => ?_))
  refine gc_astoren C 2 [(2, .ref r2), (0, .ref a0), (1, .int a1)] dX11_soundTime_5 rfl (by decide) rfl ?_
  refine gc_aloadn C 0 2 dX11_soundTime_6 rfl rfl ?_
  obtain ⟨g3, h⟩ := h
  refine gc_getI C BX10 210 2 (by decide) rfl ft_210 vf_X11_266 rfl (isC_of g3 (by decide)) dX11_soundTime_7 ?_
  refine gc_aloadn C 0 2 dX11_soundTime_10 rfl rfl ?_
  refine gc_getI C BX10 209 1 (by decide) rfl ft_209 vf_X11_263 rfl (isC_of g3 (by decide)) dX11_soundTime_11 ?_
  refine gc_isub C dX11_soundTime_14 ?_
  exact gc_iret C E lt2 dX11_soundTime_15 ⟨_, rfl, h⟩
def w_X11_soundPitch (B : Nat × Nat) (a0 : Nat) (a1 : Int32) (t : CS) (Q : Int32 → CS → Prop) (X : String → CS → Prop) : Prop := (kdC t a0 = 14) ∧ w_X11_requiredSound B a0 a1 t (fun r2 t2 => (kdC t2 r2 = 13) ∧ Q (fI t2 211 r2) t2) X
set_option maxRecDepth 20000 in
set_option maxHeartbeats 2000000 in
theorem c_X11_soundPitch (l : Launch) (D : va_G) (K : Nat → ClassId) (E0 : Nat) (B : Nat × Nat) (A0 : Nat → Prop) (a0 : Nat) (a1 : Int32) (t : CS) (Q : Int32 → CS → Prop) (X : String → CS → Prop) (h : w_X11_soundPitch B a0 a1 t Q X) : MetC l yX11_soundPitch cX11_soundPitch 2 (some .int) 12 [.ref a0, .int a1] (qI Q) X D K E0 B A0 t := by
  unfold w_X11_soundPitch at h
  refine gc_start (by decide) rfl (Nat.le_of_ble_eq_true rfl) (fun p e s m args below meth c C E => ?_)
  refine gc_aloadn C 0 0 dX11_soundPitch_0 rfl rfl ?_
  refine gc_iloadn C 1 1 dX11_soundPitch_1 rfl rfl ?_
  obtain ⟨g1, h⟩ := h
  refine gc_callV C BX11 (y := yX11_requiredSound) (as := [.int a1]) rfl (by decide) (by decide) (c_X11_requiredSound l D K E0 B A0 a0 a1 t _ X h) hk_X11_requiredSound rfl vl_X11_254 kc_X11_requiredSound (isC_of g1 (by decide)) dX11_soundPitch_2 (Nat.le_of_ble_eq_true rfl) (fun _ _ h => h) (qkR (fun r2 t2 h lt2 => ?_))
  obtain ⟨g3, h⟩ := h
  refine gc_getI C BX10 211 3 (by decide) rfl ft_211 vf_X11_267 rfl (isC_of g3 (by decide)) dX11_soundPitch_5 ?_
  exact gc_iret C E lt2 dX11_soundPitch_8 ⟨_, rfl, h⟩
def w_X11_loudness (B : Nat × Nat) (a0 : Nat) (a1 : Int32) (t : CS) (Q : Int32 → CS → Prop) (X : String → CS → Prop) : Prop := (kdC t a0 = 14) ∧ w_X11_requiredSound B a0 a1 t (fun r2 t2 => (kdC t2 r2 = 13) ∧ Q (fI t2 212 r2) t2) X
set_option maxRecDepth 20000 in
set_option maxHeartbeats 2000000 in
theorem c_X11_loudness (l : Launch) (D : va_G) (K : Nat → ClassId) (E0 : Nat) (B : Nat × Nat) (A0 : Nat → Prop) (a0 : Nat) (a1 : Int32) (t : CS) (Q : Int32 → CS → Prop) (X : String → CS → Prop) (h : w_X11_loudness B a0 a1 t Q X) : MetC l yX11_loudness cX11_loudness 2 (some .int) 12 [.ref a0, .int a1] (qI Q) X D K E0 B A0 t := by
  unfold w_X11_loudness at h
  refine gc_start (by decide) rfl (Nat.le_of_ble_eq_true rfl) (fun p e s m args below meth c C E => ?_)
  refine gc_aloadn C 0 0 dX11_loudness_0 rfl rfl ?_
  refine gc_iloadn C 1 1 dX11_loudness_1 rfl rfl ?_
  obtain ⟨g1, h⟩ := h
  refine gc_callV C BX11 (y := yX11_requiredSound) (as := [.int a1]) rfl (by decide) (by decide) (c_X11_requiredSound l D K E0 B A0 a0 a1 t _ X h) hk_X11_requiredSound rfl vl_X11_254 kc_X11_requiredSound (isC_of g1 (by decide)) dX11_loudness_2 (Nat.le_of_ble_eq_true rfl) (fun _ _ h => h) (qkR (fun r2 t2 h lt2 => ?_))
  obtain ⟨g3, h⟩ := h
  refine gc_getI C BX10 212 4 (by decide) rfl ft_212 vf_X11_268 rfl (isC_of g3 (by decide)) dX11_loudness_5 ?_
  exact gc_iret C E lt2 dX11_loudness_8 ⟨_, rfl, h⟩
def w_X11_setPaper (B : Nat × Nat) (a0 : Nat) (a1 : Int32) (a2 : Int32) (a3 : Int32) (t : CS) (Q : CS → Prop) (X : String → CS → Prop) : Prop := w_X11_requireRange B a1 40 400 t (fun t1 => w_X11_requireRange B a2 1 6 t1 (fun t2 => w_X11_requireRange B a3 0 20000 t2 (fun t3 => (kdC t3 a0 = 14) ∧ ((fR t3 224 a0) ≠ none) ∧ (kdC t3 (oG (fR t3 224 a0)) = 12) ∧ ∀ t7 : CS, t7 = usI t3 196 (oG (fR t3 224 a0)) a1 → ((fR t7 224 a0) ≠ none) ∧ (kdC t7 (oG (fR t7 224 a0)) = 12) ∧ ∀ t10 : CS, t10 = usI t7 197 (oG (fR t7 224 a0)) a2 → ((fR t10 224 a0) ≠ none) ∧ (kdC t10 (oG (fR t10 224 a0)) = 12) ∧ ∀ t13 : CS, t13 = usI t10 198 (oG (fR t10 224 a0)) a3 → ((fR t13 224 a0) ≠ none) ∧ (kdC t13 (oG (fR t13 224 a0)) = 12) ∧ ∀ t16 : CS, t16 = usI t13 199 (oG (fR t13 224 a0)) ((fI t13 199 (oG (fR t13 224 a0))) + 1) → Q t16) X) X) X
set_option maxRecDepth 20000 in
set_option maxHeartbeats 2000000 in
theorem c_X11_setPaper (l : Launch) (D : va_G) (K : Nat → ClassId) (E0 : Nat) (B : Nat × Nat) (A0 : Nat → Prop) (a0 : Nat) (a1 : Int32) (a2 : Int32) (a3 : Int32) (t : CS) (Q : CS → Prop) (X : String → CS → Prop) (h : w_X11_setPaper B a0 a1 a2 a3 t Q X) : MetC l yX11_setPaper cX11_setPaper 4 none 7 [.ref a0, .int a1, .int a2, .int a3] (qV Q) X D K E0 B A0 t := by
  unfold w_X11_setPaper at h
  refine gc_start (by decide) rfl (Nat.le_of_ble_eq_true rfl) (fun p e s m args below meth c C E => ?_)
  refine gc_iloadn C 1 1 dX11_setPaper_0 rfl rfl ?_
  refine gc_bipush C 40 dX11_setPaper_1 (by decide) ?_
  refine gc_sipush C 400 dX11_setPaper_3 (by decide) ?_
  refine gc_callS C (y := yX11_requireRange) (as := [.int a1, .int 40, .int 400]) rfl (by decide) (by decide) (c_X11_requireRange l D K E0 B A0 a1 40 400 t _ X h) hk_X11_requireRange rfl vl_X11_88 kc_X11_requireRange dX11_setPaper_6 (Nat.le_of_ble_eq_true rfl) (fun _ _ h => h) (qkV (fun t1 h lt1 => ?_))
  refine gc_iloadn C 2 2 dX11_setPaper_9 rfl rfl ?_
  refine gc_iconst C 1 dX11_setPaper_10 (by decide) ?_
  refine gc_bipush C 6 dX11_setPaper_11 (by decide) ?_
  refine gc_callS C (y := yX11_requireRange) (as := [.int a2, .int 1, .int 6]) rfl (by decide) (by decide) (c_X11_requireRange l D K E0 B A0 a2 1 6 t1 _ X h) hk_X11_requireRange rfl vl_X11_88 kc_X11_requireRange dX11_setPaper_13 (Nat.le_of_ble_eq_true rfl) (fun _ _ h => h) (qkV (fun t2 h lt2 => ?_))
  refine gc_iloadn C 3 3 dX11_setPaper_16 rfl rfl ?_
  refine gc_iconst C 0 dX11_setPaper_17 (by decide) ?_
  refine gc_sipush C 20000 dX11_setPaper_18 (by decide) ?_
  refine gc_callS C (y := yX11_requireRange) (as := [.int a3, .int 0, .int 20000]) rfl (by decide) (by decide) (c_X11_requireRange l D K E0 B A0 a3 0 20000 t2 _ X h) hk_X11_requireRange rfl vl_X11_88 kc_X11_requireRange dX11_setPaper_21 (Nat.le_of_ble_eq_true rfl) (fun _ _ h => h) (qkV (fun t3 h lt3 => ?_))
  refine gc_aloadn C 0 0 dX11_setPaper_24 rfl rfl ?_
  obtain ⟨g4, h⟩ := h
  obtain ⟨g5, h⟩ := h
  refine gc_getR C BX11 224 0 (by decide) rfl ft_224 vf_X11_10 rfl (isC_of g4 (by decide)) (oG (fR t3 224 a0)) (oG_some g5) dX11_setPaper_25 ?_
  refine gc_iloadn C 1 1 dX11_setPaper_28 rfl rfl ?_
  obtain ⟨g6, h⟩ := h
  refine gc_putI C BX9 196 4 (by decide) rfl .int ft_196 vf_X11_271 rfl rfl (by decide +kernel) rfl rfl (isC_of g6 (by decide)) dX11_setPaper_29 ?_
  refine gc_nameS (fun t7 et7 => ?_)
  have h := h t7 et7
  have lt7 : kdLe t3 t7 := kdLe.eq (by rw [et7]; rfl)
  refine gc_aloadn C 0 0 dX11_setPaper_32 rfl rfl ?_
  obtain ⟨g8, h⟩ := h
  refine gc_getR C BX11 224 0 (by decide) rfl ft_224 vf_X11_10 rfl (isC_of (kdLe.k lt7 g4 (by decide) (by decide)) (by decide)) (oG (fR t7 224 a0)) (oG_some g8) dX11_setPaper_33 ?_
  refine gc_iloadn C 2 2 dX11_setPaper_36 rfl rfl ?_
  obtain ⟨g9, h⟩ := h
  refine gc_putI C BX9 197 5 (by decide) rfl .int ft_197 vf_X11_274 rfl rfl (by decide +kernel) rfl rfl (isC_of g9 (by decide)) dX11_setPaper_37 ?_
  refine gc_nameS (fun t10 et10 => ?_)
  have h := h t10 et10
  have lt10 : kdLe t7 t10 := kdLe.eq (by rw [et10]; rfl)
  refine gc_aloadn C 0 0 dX11_setPaper_40 rfl rfl ?_
  obtain ⟨g11, h⟩ := h
  refine gc_getR C BX11 224 0 (by decide) rfl ft_224 vf_X11_10 rfl (isC_of (kdLe.k (kdLe.tr lt7 lt10) g4 (by decide) (by decide)) (by decide)) (oG (fR t10 224 a0)) (oG_some g11) dX11_setPaper_41 ?_
  refine gc_iloadn C 3 3 dX11_setPaper_44 rfl rfl ?_
  obtain ⟨g12, h⟩ := h
  refine gc_putI C BX9 198 6 (by decide) rfl .int ft_198 vf_X11_277 rfl rfl (by decide +kernel) rfl rfl (isC_of g12 (by decide)) dX11_setPaper_45 ?_
  refine gc_nameS (fun t13 et13 => ?_)
  have h := h t13 et13
  have lt13 : kdLe t10 t13 := kdLe.eq (by rw [et13]; rfl)
  refine gc_aloadn C 0 0 dX11_setPaper_48 rfl rfl ?_
  obtain ⟨g14, h⟩ := h
  refine gc_getR C BX11 224 0 (by decide) rfl ft_224 vf_X11_10 rfl (isC_of (kdLe.k (kdLe.tr lt7 (kdLe.tr lt10 lt13)) g4 (by decide) (by decide)) (by decide)) (oG (fR t13 224 a0)) (oG_some g14) dX11_setPaper_49 ?_
  refine gc_dup C dX11_setPaper_52 rfl ?_
  obtain ⟨g15, h⟩ := h
  refine gc_getI C BX9 199 7 (by decide) rfl ft_199 vf_X11_58 rfl (isC_of g15 (by decide)) dX11_setPaper_53 ?_
  refine gc_iconst C 1 dX11_setPaper_56 (by decide) ?_
  refine gc_iadd C dX11_setPaper_57 ?_
  refine gc_putI C BX9 199 7 (by decide) rfl .int ft_199 vf_X11_58 rfl rfl (by decide +kernel) rfl rfl (isC_of g15 (by decide)) dX11_setPaper_58 ?_
  refine gc_nameS (fun t16 et16 => ?_)
  have h := h t16 et16
  have lt16 : kdLe t13 t16 := kdLe.eq (by rw [et16]; rfl)
  exact gc_vret C E (kdLe.tr lt1 (kdLe.tr lt2 (kdLe.tr lt3 (kdLe.tr lt7 (kdLe.tr lt10 (kdLe.tr lt13 lt16)))))) dX11_setPaper_61 ⟨rfl, h⟩
def w_X9_canBeDrawn_L2 (B : Nat × Nat) (a0 : Nat) (a1 : Int32) (Q : Int32 → CS → Prop) (X : String → CS → Prop) (K2 : (Int32 × CS) → Prop) (z2 : Int32 × CS) : Prop := (kdC z2.2 a0 = 12) ∧ (((nI (fL z2.2 192 a0).length) ≤ z2.1) → ((fL z2.2 192 a0).length < 2147483648) ∧ ∀ x3 : Int32, x3 = (if (if (fL z2.2 192 a0).length = 0 then (1 : Int32) else 0) = 0 then 1 else 0) → (gb x3) ∧ Q x3 z2.2) ∧ (¬ ((nI (fL z2.2 192 a0).length) ≤ z2.1) → w_X9_isRightBar B a0 a1 z2.1 z2.2 (fun r5 t5 => ((r5 = 0) → Q 0 t5) ∧ (¬ (r5 = 0) → K2 ((z2.1 + 1), t5))) X)
def w_X9_canBeDrawn (B : Nat × Nat) (a0 : Nat) (a1 : Int32) (t : CS) (Q : Int32 → CS → Prop) (X : String → CS → Prop) : Prop := ∃ n, lp (w_X9_canBeDrawn_L2 B a0 a1 Q X) n (0, t)
set_option maxRecDepth 20000 in
set_option maxHeartbeats 2000000 in
theorem c_X9_canBeDrawn (l : Launch) (D : va_G) (K : Nat → ClassId) (E0 : Nat) (B : Nat × Nat) (A0 : Nat → Prop) (a0 : Nat) (a1 : Int32) (t : CS) (Q : Int32 → CS → Prop) (X : String → CS → Prop) (h : w_X9_canBeDrawn B a0 a1 t Q X) : MetC l yX9_canBeDrawn cX9_canBeDrawn 3 (some .boolean) 6 [.ref a0, .int a1] (qI Q) X D K E0 B A0 t := by
  unfold w_X9_canBeDrawn at h
  refine gc_start (by decide) rfl (Nat.le_of_ble_eq_true rfl) (fun p e s m args below meth c C E => ?_)
  refine gc_iconst C 0 dX9_canBeDrawn_0 (by decide) ?_
  refine gc_istoren C 2 [(2, .int 0), (0, .ref a0), (1, .int a1)] dX9_canBeDrawn_1 rfl (by decide) rfl ?_
  refine gc_sub [1, 2, 0] rfl ?_
  obtain ⟨n2, h⟩ := h
  have k2 : ∀ (n2 : Nat) (z2 : Int32 × CS), kdLe t z2.2 → lp (w_X9_canBeDrawn_L2 B a0 a1 Q X) n2 z2 → GC p l e (rmC 6 B t) s m args below meth c 3 D K E0 B A0 (gc_Q below D K E0 A0 (qI Q) X args s t (rmC 6 B t)) z2.2 2 [(0, .ref a0), (1, .int a1), (2, .int z2.1)] [] := by
    intro n2
    induction n2 with
    | zero => intro z2 lz2 h; exact h.elim
    | succ n2 ih2 =>
      intro z2 lz2 h
      have h : w_X9_canBeDrawn_L2 B a0 a1 Q X (lp (w_X9_canBeDrawn_L2 B a0 a1 Q X) n2) z2 := h
      unfold w_X9_canBeDrawn_L2 at h
      refine gc_iloadn C 2 2 dX9_canBeDrawn_2 rfl rfl ?_
      refine gc_aloadn C 0 0 dX9_canBeDrawn_3 rfl rfl ?_
      obtain ⟨g1, h⟩ := h
      refine gc_getE C BX9 192 0 (by decide) rfl fe_192 vf_X9_12 rfl g1 dX9_canBeDrawn_4 ?_
      refine gc_lsSize C (ci := 12) (k0 := 0) 192 (by decide) (by decide) (by decide) rfl ft_192 rfl (by decide) g1 vj_X9_38 dX9_canBeDrawn_7 (Nat.le_of_ble_eq_true rfl) ?_
      refine gc_icmp_ge C 30 dX9_canBeDrawn_10 (by decide) (fun c10_1 => ?_) (fun c10_1 => ?_)
      · have h := h.1 c10_1
        refine gc_aloadn C 0 0 dX9_canBeDrawn_30 rfl rfl ?_
        refine gc_getE C BX9 192 0 (by decide) rfl fe_192 vf_X9_12 rfl g1 dX9_canBeDrawn_31 ?_
        obtain ⟨g2, h⟩ := h
        refine gc_lsEmpty C (ci := 12) (k0 := 0) 192 (by decide) (by decide) (by decide) rfl ft_192 rfl (by decide) g2 g1 vj_X9_88 dX9_canBeDrawn_34 (Nat.le_of_ble_eq_true rfl) ?_
        have k45 : ∀ x3 : Int32, x3 = (if (if (fL z2.2 192 a0).length = 0 then (1 : Int32) else 0) = 0 then 1 else 0) → GC p l e (rmC 6 B t) s m args below meth c 3 D K E0 B A0 (gc_Q below D K E0 A0 (qI Q) X args s t (rmC 6 B t)) z2.2 45 [] [.int x3] := by
          intro x3 ex3
          have h := h x3 ex3
          obtain ⟨g4, h⟩ := h
          exact gc_zret C E g4 lz2 dX9_canBeDrawn_45 ⟨_, rfl, h⟩
        refine gc_if_ne C 44 dX9_canBeDrawn_37 (by decide) (fun c37_2 => ?_) (fun c37_2 => ?_)
        · refine gc_iconst C 0 dX9_canBeDrawn_44 (by decide) ?_
          refine gc_sub [] rfl ?_
          exact k45 _ ((if_neg c37_2).symm)
        · refine gc_iconst C 1 dX9_canBeDrawn_40 (by decide) ?_
          refine gc_goto C 45 dX9_canBeDrawn_41 (by decide) ?_
          refine gc_sub [] rfl ?_
          exact k45 _ ((if_pos c37_2).symm)
      · have h := h.2 c10_1
        refine gc_aloadn C 0 0 dX9_canBeDrawn_13 rfl rfl ?_
        refine gc_iloadn C 1 1 dX9_canBeDrawn_14 rfl rfl ?_
        refine gc_iloadn C 2 2 dX9_canBeDrawn_15 rfl rfl ?_
        refine gc_callV C BX9 (y := yX9_isRightBar) (as := [.int a1, .int z2.1]) rfl (by decide) (by decide) (c_X9_isRightBar l D K E0 B A0 a0 a1 z2.1 z2.2 _ X h) hk_X9_isRightBar rfl vl_X9_84 kc_X9_isRightBar (isC_of g1 (by decide)) dX9_canBeDrawn_16 (Nat.le_of_ble_eq_true rfl) (fun _ _ h => h) (qkI (fun r5 t5 h lt5 => ?_))
        refine gc_if_ne C 24 dX9_canBeDrawn_19 (by decide) (fun c19_3 => ?_) (fun c19_3 => ?_)
        · have h := h.2 c19_3
          refine gc_iinc C 2 (z2.1 + 1) [(2, .int (z2.1 + 1)), (0, .ref a0), (1, .int a1)] dX9_canBeDrawn_24 rfl rfl (by decide) rfl ?_
          refine gc_goto C 2 dX9_canBeDrawn_27 (by decide) ?_
          refine gc_sub [1, 2, 0] rfl ?_
          have h9 := ih2 ((z2.1 + 1), t5) (kdLe.tr lz2 lt5) h
          exact h9
        · have h := h.1 c19_3
          refine gc_iconst C 0 dX9_canBeDrawn_22 (by decide) ?_
          exact gc_zret C E (Or.inl rfl) (kdLe.tr lz2 lt5) dX9_canBeDrawn_23 ⟨_, rfl, h⟩
  exact k2 n2 (0, t) (kdLe.rf _) h
def w_X1_init (B : Nat × Nat) (a0 : Nat) (t : CS) (Q : CS → Prop) (X : String → CS → Prop) : Prop := (aOK t 64 a0 4) ∧ (szC t + 1 ≤ B.1 ∧ nsC t + cLN 64 ≤ B.2) ∧ ∀ t3 : CS, t3 = uat t 64 a0 4 (cLN 64) → (aOK t3 66 a0 4) ∧ (szC t3 + 1 ≤ B.1 ∧ nsC t3 + cLN 66 ≤ B.2) ∧ ∀ t6 : CS, t6 = uat t3 66 a0 4 (cLN 66) → (aOK t6 67 a0 4) ∧ (szC t6 + 1 ≤ B.1 ∧ nsC t6 + cLN 67 ≤ B.2) ∧ ∀ t9 : CS, t9 = uat t6 67 a0 4 (cLN 67) → Q t9
set_option maxRecDepth 20000 in
set_option maxHeartbeats 2000000 in
theorem c_X1_init (l : Launch) (D : va_G) (K : Nat → ClassId) (E0 : Nat) (B : Nat × Nat) (A0 : Nat → Prop) (a0 : Nat) (t : CS) (Q : CS → Prop) (X : String → CS → Prop) (h : w_X1_init B a0 t Q X) : MetC l yX1_init cX1_init 1 none 1 [.ref a0] (qV Q) X D K E0 B A0 t := by
  unfold w_X1_init at h
  refine gc_start (by decide) rfl (Nat.le_of_ble_eq_true rfl) (fun p e s m args below meth c C E => ?_)
  refine gc_aloadn C 0 0 dX1_init_0 rfl rfl ?_
  refine gc_objInit C rfl (by decide) vo_X1_3 (Nat.le_of_ble_eq_true rfl) dX1_init_1 ?_
  refine gc_aloadn C 0 0 dX1_init_4 rfl rfl ?_
  refine gc_bipush C 24 dX1_init_5 (by decide) ?_
  obtain ⟨g1, h⟩ := h
  obtain ⟨g2, h⟩ := h
  refine gc_attI C BX1 64 0 (by decide) rfl (n := 24) v_i137 ft_64 vf_X1_9 rfl rfl E.2 rfl (by decide +kernel) (by decide) (by decide +kernel) (by decide +kernel) g1 g2 dX1_init_7 dX1_init_9 ?_
  refine gc_nameS (fun t3 et3 => ?_)
  have h := h t3 et3
  have lt3 : kdLe t t3 := by rw [et3]; exact uat_le g1.2.1
  have qt3 : isC t3 a0 4 := by rw [et3]; exact isC_uat g1.1 (by decide)
  refine gc_aloadn C 0 0 dX1_init_12 rfl rfl ?_
  refine gc_bipush C 25 dX1_init_13 (by decide) ?_
  obtain ⟨g4, h⟩ := h
  obtain ⟨g5, h⟩ := h
  refine gc_attI C BX1 66 2 (by decide) rfl (n := 25) v_i137 ft_66 vf_X1_15 rfl rfl E.2 rfl (by decide +kernel) (by decide) (by decide +kernel) (by decide +kernel) g4 g5 dX1_init_15 dX1_init_17 ?_
  refine gc_nameS (fun t6 et6 => ?_)
  have h := h t6 et6
  have lt6 : kdLe t3 t6 := by rw [et6]; exact uat_le g4.2.1
  have qt6 : isC t6 a0 4 := by rw [et6]; exact isC_uat qt3 (by decide)
  refine gc_aloadn C 0 0 dX1_init_20 rfl rfl ?_
  refine gc_bipush C 25 dX1_init_21 (by decide) ?_
  obtain ⟨g7, h⟩ := h
  obtain ⟨g8, h⟩ := h
  refine gc_attI C BX1 67 3 (by decide) rfl (n := 25) v_i137 ft_67 vf_X1_18 rfl rfl E.2 rfl (by decide +kernel) (by decide) (by decide +kernel) (by decide +kernel) g7 g8 dX1_init_23 dX1_init_25 ?_
  refine gc_nameS (fun t9 et9 => ?_)
  have h := h t9 et9
  have lt9 : kdLe t6 t9 := by rw [et9]; exact uat_le g7.2.1
  have qt9 : isC t9 a0 4 := by rw [et9]; exact isC_uat qt6 (by decide)
  exact gc_vret C E (kdLe.tr lt3 (kdLe.tr lt6 lt9)) dX1_init_28 ⟨rfl, h⟩
def w_X3_init (B : Nat × Nat) (a0 : Nat) (t : CS) (Q : CS → Prop) (X : String → CS → Prop) : Prop := (aOK t 96 a0 6) ∧ (szC t + 1 ≤ B.1 ∧ nsC t + cLN 96 ≤ B.2) ∧ ∀ t3 : CS, t3 = uat t 96 a0 6 (cLN 96) → (aOK t3 97 a0 6) ∧ (szC t3 + 1 ≤ B.1 ∧ nsC t3 + cLN 97 ≤ B.2) ∧ ∀ t6 : CS, t6 = uat t3 97 a0 6 (cLN 97) → (aOK t6 99 a0 6) ∧ (szC t6 + 1 ≤ B.1 ∧ nsC t6 + cLN 99 ≤ B.2) ∧ ∀ t9 : CS, t9 = uat t6 99 a0 6 (cLN 99) → (aOK t9 101 a0 6) ∧ (szC t9 + 1 ≤ B.1 ∧ nsC t9 + cLN 101 ≤ B.2) ∧ ∀ t12 : CS, t12 = uat t9 101 a0 6 (cLN 101) → (aOK t12 102 a0 6) ∧ (szC t12 + 1 ≤ B.1 ∧ nsC t12 + cLN 102 ≤ B.2) ∧ ∀ t15 : CS, t15 = uat t12 102 a0 6 (cLN 102) → (aOK t15 103 a0 6) ∧ (szC t15 + 1 ≤ B.1 ∧ nsC t15 + cLN 103 ≤ B.2) ∧ ∀ t18 : CS, t18 = uat t15 103 a0 6 (cLN 103) → (aOK t18 104 a0 6) ∧ (szC t18 + 1 ≤ B.1 ∧ nsC t18 + cLN 104 ≤ B.2) ∧ ∀ t21 : CS, t21 = uat t18 104 a0 6 (cLN 104) → (aOK t21 105 a0 6) ∧ (szC t21 + 1 ≤ B.1 ∧ nsC t21 + cLN 105 ≤ B.2) ∧ ∀ t24 : CS, t24 = uat t21 105 a0 6 (cLN 105) → (aOK t24 106 a0 6) ∧ (szC t24 + 1 ≤ B.1 ∧ nsC t24 + cLN 106 ≤ B.2) ∧ ∀ t27 : CS, t27 = uat t24 106 a0 6 (cLN 106) → Q t27
set_option maxRecDepth 20000 in
set_option maxHeartbeats 2000000 in
theorem c_X3_init (l : Launch) (D : va_G) (K : Nat → ClassId) (E0 : Nat) (B : Nat × Nat) (A0 : Nat → Prop) (a0 : Nat) (t : CS) (Q : CS → Prop) (X : String → CS → Prop) (h : w_X3_init B a0 t Q X) : MetC l yX3_init cX3_init 1 none 1 [.ref a0] (qV Q) X D K E0 B A0 t := by
  unfold w_X3_init at h
  refine gc_start (by decide) rfl (Nat.le_of_ble_eq_true rfl) (fun p e s m args below meth c C E => ?_)
  refine gc_aloadn C 0 0 dX3_init_0 rfl rfl ?_
  refine gc_objInit C rfl (by decide) vo_X3_3 (Nat.le_of_ble_eq_true rfl) dX3_init_1 ?_
  refine gc_aloadn C 0 0 dX3_init_4 rfl rfl ?_
  refine gc_bipush C 48 dX3_init_5 (by decide) ?_
  obtain ⟨g1, h⟩ := h
  obtain ⟨g2, h⟩ := h
  refine gc_attI C BX3 96 0 (by decide) rfl (n := 48) v_i137 ft_96 vf_X3_11 rfl rfl E.2 rfl (by decide +kernel) (by decide) (by decide +kernel) (by decide +kernel) g1 g2 dX3_init_7 dX3_init_9 ?_
  refine gc_nameS (fun t3 et3 => ?_)
  have h := h t3 et3
  have lt3 : kdLe t t3 := by rw [et3]; exact uat_le g1.2.1
  have qt3 : isC t3 a0 6 := by rw [et3]; exact isC_uat g1.1 (by decide)
  refine gc_aloadn C 0 0 dX3_init_12 rfl rfl ?_
  refine gc_bipush C 48 dX3_init_13 (by decide) ?_
  obtain ⟨g4, h⟩ := h
  obtain ⟨g5, h⟩ := h
  refine gc_attI C BX3 97 1 (by decide) rfl (n := 48) v_i137 ft_97 vf_X3_15 rfl rfl E.2 rfl (by decide +kernel) (by decide) (by decide +kernel) (by decide +kernel) g4 g5 dX3_init_15 dX3_init_17 ?_
  refine gc_nameS (fun t6 et6 => ?_)
  have h := h t6 et6
  have lt6 : kdLe t3 t6 := by rw [et6]; exact uat_le g4.2.1
  have qt6 : isC t6 a0 6 := by rw [et6]; exact isC_uat qt3 (by decide)
  refine gc_aloadn C 0 0 dX3_init_20 rfl rfl ?_
  refine gc_bipush C 24 dX3_init_21 (by decide) ?_
  obtain ⟨g7, h⟩ := h
  obtain ⟨g8, h⟩ := h
  refine gc_attI C BX3 99 3 (by decide) rfl (n := 24) v_i137 ft_99 vf_X3_18 rfl rfl E.2 rfl (by decide +kernel) (by decide) (by decide +kernel) (by decide +kernel) g7 g8 dX3_init_23 dX3_init_25 ?_
  refine gc_nameS (fun t9 et9 => ?_)
  have h := h t9 et9
  have lt9 : kdLe t6 t9 := by rw [et9]; exact uat_le g7.2.1
  have qt9 : isC t9 a0 6 := by rw [et9]; exact isC_uat qt6 (by decide)
  refine gc_aloadn C 0 0 dX3_init_28 rfl rfl ?_
  refine gc_bipush C 24 dX3_init_29 (by decide) ?_
  obtain ⟨g10, h⟩ := h
  obtain ⟨g11, h⟩ := h
  refine gc_attI C BX3 101 5 (by decide) rfl (n := 24) v_i137 ft_101 vf_X3_21 rfl rfl E.2 rfl (by decide +kernel) (by decide) (by decide +kernel) (by decide +kernel) g10 g11 dX3_init_31 dX3_init_33 ?_
  refine gc_nameS (fun t12 et12 => ?_)
  have h := h t12 et12
  have lt12 : kdLe t9 t12 := by rw [et12]; exact uat_le g10.2.1
  have qt12 : isC t12 a0 6 := by rw [et12]; exact isC_uat qt9 (by decide)
  refine gc_aloadn C 0 0 dX3_init_36 rfl rfl ?_
  refine gc_bipush C 24 dX3_init_37 (by decide) ?_
  obtain ⟨g13, h⟩ := h
  obtain ⟨g14, h⟩ := h
  refine gc_attI C BX3 102 6 (by decide) rfl (n := 24) v_i137 ft_102 vf_X3_24 rfl rfl E.2 rfl (by decide +kernel) (by decide) (by decide +kernel) (by decide +kernel) g13 g14 dX3_init_39 dX3_init_41 ?_
  refine gc_nameS (fun t15 et15 => ?_)
  have h := h t15 et15
  have lt15 : kdLe t12 t15 := by rw [et15]; exact uat_le g13.2.1
  have qt15 : isC t15 a0 6 := by rw [et15]; exact isC_uat qt12 (by decide)
  refine gc_aloadn C 0 0 dX3_init_44 rfl rfl ?_
  refine gc_bipush C 24 dX3_init_45 (by decide) ?_
  obtain ⟨g16, h⟩ := h
  obtain ⟨g17, h⟩ := h
  refine gc_attI C BX3 103 7 (by decide) rfl (n := 24) v_i137 ft_103 vf_X3_27 rfl rfl E.2 rfl (by decide +kernel) (by decide) (by decide +kernel) (by decide +kernel) g16 g17 dX3_init_47 dX3_init_49 ?_
  refine gc_nameS (fun t18 et18 => ?_)
  have h := h t18 et18
  have lt18 : kdLe t15 t18 := by rw [et18]; exact uat_le g16.2.1
  have qt18 : isC t18 a0 6 := by rw [et18]; exact isC_uat qt15 (by decide)
  refine gc_aloadn C 0 0 dX3_init_52 rfl rfl ?_
  refine gc_bipush C 24 dX3_init_53 (by decide) ?_
  obtain ⟨g19, h⟩ := h
  obtain ⟨g20, h⟩ := h
  refine gc_attI C BX3 104 8 (by decide) rfl (n := 24) v_i137 ft_104 vf_X3_30 rfl rfl E.2 rfl (by decide +kernel) (by decide) (by decide +kernel) (by decide +kernel) g19 g20 dX3_init_55 dX3_init_57 ?_
  refine gc_nameS (fun t21 et21 => ?_)
  have h := h t21 et21
  have lt21 : kdLe t18 t21 := by rw [et21]; exact uat_le g19.2.1
  have qt21 : isC t21 a0 6 := by rw [et21]; exact isC_uat qt18 (by decide)
  refine gc_aloadn C 0 0 dX3_init_60 rfl rfl ?_
  refine gc_bipush C 100 dX3_init_61 (by decide) ?_
  obtain ⟨g22, h⟩ := h
  obtain ⟨g23, h⟩ := h
  refine gc_attJ C BX3 105 9 (by decide) rfl (n := 100) v_i739 ft_105 vf_X3_33 rfl rfl E.2 rfl (by decide +kernel) (by decide) (by decide +kernel) (by decide +kernel) g22 g23 dX3_init_63 dX3_init_65 ?_
  refine gc_nameS (fun t24 et24 => ?_)
  have h := h t24 et24
  have lt24 : kdLe t21 t24 := by rw [et24]; exact uat_le g22.2.1
  have qt24 : isC t24 a0 6 := by rw [et24]; exact isC_uat qt21 (by decide)
  refine gc_aloadn C 0 0 dX3_init_68 rfl rfl ?_
  refine gc_bipush C 100 dX3_init_69 (by decide) ?_
  obtain ⟨g25, h⟩ := h
  obtain ⟨g26, h⟩ := h
  refine gc_attI C BX3 106 10 (by decide) rfl (n := 100) v_i137 ft_106 vf_X3_37 rfl rfl E.2 rfl (by decide +kernel) (by decide) (by decide +kernel) (by decide +kernel) g25 g26 dX3_init_71 dX3_init_73 ?_
  refine gc_nameS (fun t27 et27 => ?_)
  have h := h t27 et27
  have lt27 : kdLe t24 t27 := by rw [et27]; exact uat_le g25.2.1
  have qt27 : isC t27 a0 6 := by rw [et27]; exact isC_uat qt24 (by decide)
  exact gc_vret C E (kdLe.tr lt3 (kdLe.tr lt6 (kdLe.tr lt9 (kdLe.tr lt12 (kdLe.tr lt15 (kdLe.tr lt18 (kdLe.tr lt21 (kdLe.tr lt24 lt27)))))))) dX3_init_76 ⟨rfl, h⟩
def w_X4_init (B : Nat × Nat) (a0 : Nat) (a1 : Int32) (t : CS) (Q : CS → Prop) (X : String → CS → Prop) : Prop := (aOK t 113 a0 7) ∧ (szC t + 1 ≤ B.1 ∧ nsC t + cLN 113 ≤ B.2) ∧ ∀ t3 : CS, t3 = uat t 113 a0 7 (cLN 113) → (aOK t3 114 a0 7) ∧ (szC t3 + 1 ≤ B.1 ∧ nsC t3 + cLN 114 ≤ B.2) ∧ ∀ t6 : CS, t6 = uat t3 114 a0 7 (cLN 114) → (aOK t6 115 a0 7) ∧ (szC t6 + 1 ≤ B.1 ∧ nsC t6 + cLN 115 ≤ B.2) ∧ ∀ t9 : CS, t9 = uat t6 115 a0 7 (cLN 115) → (aOK t9 116 a0 7) ∧ (szC t9 + 1 ≤ B.1 ∧ nsC t9 + cLN 116 ≤ B.2) ∧ ∀ t12 : CS, t12 = uat t9 116 a0 7 (cLN 116) → (aOK t12 117 a0 7) ∧ (szC t12 + 1 ≤ B.1 ∧ nsC t12 + cLN 117 ≤ B.2) ∧ ∀ t15 : CS, t15 = uat t12 117 a0 7 (cLN 117) → (szC t15 + 1 ≤ B.1 ∧ nsC t15 + cNF 4 ≤ B.2) ∧ ∀ _ : kdC t15 (szC t15) = 0, ∀ t18 : CS, t18 = newO t15 4 → w_X1_init B (szC t15) t18 (fun t19 => (isC t19 a0 7) ∧ ∀ t21 : CS, t21 = usR t19 119 a0 (some (szC t15)) → (szC t21 + 1 ≤ B.1 ∧ nsC t21 + cNF 6 ≤ B.2) ∧ ∀ _ : kdC t21 (szC t21) = 0, ∀ t24 : CS, t24 = newO t21 6 → w_X3_init B (szC t21) t24 (fun t25 => (isC t25 a0 7) ∧ ∀ t27 : CS, t27 = usR t25 120 a0 (some (szC t21)) → ∀ t28 : CS, t28 = usI t27 121 a0 (-1) → ∀ t29 : CS, t29 = usI t28 112 a0 a1 → Q t29) X) X
set_option maxRecDepth 20000 in
set_option maxHeartbeats 2000000 in
theorem c_X4_init (l : Launch) (D : va_G) (K : Nat → ClassId) (E0 : Nat) (B : Nat × Nat) (A0 : Nat → Prop) (a0 : Nat) (a1 : Int32) (t : CS) (Q : CS → Prop) (X : String → CS → Prop) (h : w_X4_init B a0 a1 t Q X) : MetC l yX4_init cX4_init 2 none 2 [.ref a0, .int a1] (qV Q) X D K E0 B A0 t := by
  unfold w_X4_init at h
  refine gc_start (by decide) rfl (Nat.le_of_ble_eq_true rfl) (fun p e s m args below meth c C E => ?_)
  refine gc_aloadn C 0 0 dX4_init_0 rfl rfl ?_
  refine gc_objInit C rfl (by decide) vo_X4_3 (Nat.le_of_ble_eq_true rfl) dX4_init_1 ?_
  refine gc_aloadn C 0 0 dX4_init_4 rfl rfl ?_
  refine gc_bipush C 24 dX4_init_5 (by decide) ?_
  obtain ⟨g1, h⟩ := h
  obtain ⟨g2, h⟩ := h
  refine gc_attI C BX4 113 1 (by decide) rfl (n := 24) v_i137 ft_113 vf_X4_9 rfl rfl E.2 rfl (by decide +kernel) (by decide) (by decide +kernel) (by decide +kernel) g1 g2 dX4_init_7 dX4_init_9 ?_
  refine gc_nameS (fun t3 et3 => ?_)
  have h := h t3 et3
  have lt3 : kdLe t t3 := by rw [et3]; exact uat_le g1.2.1
  have qt3 : isC t3 a0 7 := by rw [et3]; exact isC_uat g1.1 (by decide)
  refine gc_aloadn C 0 0 dX4_init_12 rfl rfl ?_
  refine gc_bipush C 24 dX4_init_13 (by decide) ?_
  obtain ⟨g4, h⟩ := h
  obtain ⟨g5, h⟩ := h
  refine gc_attI C BX4 114 2 (by decide) rfl (n := 24) v_i137 ft_114 vf_X4_15 rfl rfl E.2 rfl (by decide +kernel) (by decide) (by decide +kernel) (by decide +kernel) g4 g5 dX4_init_15 dX4_init_17 ?_
  refine gc_nameS (fun t6 et6 => ?_)
  have h := h t6 et6
  have lt6 : kdLe t3 t6 := by rw [et6]; exact uat_le g4.2.1
  have qt6 : isC t6 a0 7 := by rw [et6]; exact isC_uat qt3 (by decide)
  refine gc_aloadn C 0 0 dX4_init_20 rfl rfl ?_
  refine gc_bipush C 24 dX4_init_21 (by decide) ?_
  obtain ⟨g7, h⟩ := h
  obtain ⟨g8, h⟩ := h
  refine gc_attI C BX4 115 3 (by decide) rfl (n := 24) v_i137 ft_115 vf_X4_18 rfl rfl E.2 rfl (by decide +kernel) (by decide) (by decide +kernel) (by decide +kernel) g7 g8 dX4_init_23 dX4_init_25 ?_
  refine gc_nameS (fun t9 et9 => ?_)
  have h := h t9 et9
  have lt9 : kdLe t6 t9 := by rw [et9]; exact uat_le g7.2.1
  have qt9 : isC t9 a0 7 := by rw [et9]; exact isC_uat qt6 (by decide)
  refine gc_aloadn C 0 0 dX4_init_28 rfl rfl ?_
  refine gc_bipush C 24 dX4_init_29 (by decide) ?_
  obtain ⟨g10, h⟩ := h
  obtain ⟨g11, h⟩ := h
  refine gc_attI C BX4 116 4 (by decide) rfl (n := 24) v_i137 ft_116 vf_X4_21 rfl rfl E.2 rfl (by decide +kernel) (by decide) (by decide +kernel) (by decide +kernel) g10 g11 dX4_init_31 dX4_init_33 ?_
  refine gc_nameS (fun t12 et12 => ?_)
  have h := h t12 et12
  have lt12 : kdLe t9 t12 := by rw [et12]; exact uat_le g10.2.1
  have qt12 : isC t12 a0 7 := by rw [et12]; exact isC_uat qt9 (by decide)
  refine gc_aloadn C 0 0 dX4_init_36 rfl rfl ?_
  refine gc_bipush C 24 dX4_init_37 (by decide) ?_
  obtain ⟨g13, h⟩ := h
  obtain ⟨g14, h⟩ := h
  refine gc_attI C BX4 117 5 (by decide) rfl (n := 24) v_i137 ft_117 vf_X4_24 rfl rfl E.2 rfl (by decide +kernel) (by decide) (by decide +kernel) (by decide +kernel) g13 g14 dX4_init_39 dX4_init_41 ?_
  refine gc_nameS (fun t15 et15 => ?_)
  have h := h t15 et15
  have lt15 : kdLe t12 t15 := by rw [et15]; exact uat_le g13.2.1
  have qt15 : isC t15 a0 7 := by rw [et15]; exact isC_uat qt12 (by decide)
  refine gc_aloadn C 0 0 dX4_init_44 rfl rfl ?_
  obtain ⟨g16, h⟩ := h
  refine gc_new C BX1 hd_X1 vn_X4_27 g16 dX4_init_45 (fun hz17 => ?_)
  have h := h hz17
  refine gc_nameS (fun t18 et18 => ?_)
  have h := h t18 et18
  have lt18 : kdLe t15 t18 := by rw [et18]; exact newO_le hz17
  refine gc_dup C dX4_init_48 rfl ?_
  refine gc_callIN C (y := yX1_init) (as := []) (host := "ScoreHouse") rfl (by decide) (by decide) (c_X1_init l D K E0 B A0 (szC t15) t18 _ X h) hk_X1_init rfl rfl n_i670 vl_X4_29 kc_X1_init dX4_init_49 (Nat.le_of_ble_eq_true rfl) (fun _ _ h => h) (qkV (fun t19 h lt19 => ?_))
  obtain ⟨g20, h⟩ := h
  refine gc_putRF C BX4 119 7 (by decide) rfl "ScoreHouse$LineBreaking" ft_119 vf_X4_30 rfl rfl E.2 rfl (by decide +kernel) g20 dX4_init_52 ?_
  refine gc_nameS (fun t21 et21 => ?_)
  have h := h t21 et21
  have lt21 : kdLe t19 t21 := kdLe.eq (by rw [et21]; rfl)
  have qt21 : isC t21 a0 7 := by rw [et21]; exact g20
  refine gc_aloadn C 0 0 dX4_init_55 rfl rfl ?_
  obtain ⟨g22, h⟩ := h
  refine gc_new C BX3 hd_X3 vn_X4_34 g22 dX4_init_56 (fun hz23 => ?_)
  have h := h hz23
  refine gc_nameS (fun t24 et24 => ?_)
  have h := h t24 et24
  have lt24 : kdLe t21 t24 := by rw [et24]; exact newO_le hz23
  refine gc_dup C dX4_init_59 rfl ?_
  refine gc_callIN C (y := yX3_init) (as := []) (host := "ScoreHouse") rfl (by decide) (by decide) (c_X3_init l D K E0 B A0 (szC t21) t24 _ X h) hk_X3_init rfl rfl n_i694 vl_X4_36 kc_X3_init dX4_init_60 (Nat.le_of_ble_eq_true rfl) (fun _ _ h => h) (qkV (fun t25 h lt25 => ?_))
  obtain ⟨g26, h⟩ := h
  refine gc_putRF C BX4 120 8 (by decide) rfl "ScoreHouse$Paging" ft_120 vf_X4_37 rfl rfl E.2 rfl (by decide +kernel) g26 dX4_init_63 ?_
  refine gc_nameS (fun t27 et27 => ?_)
  have h := h t27 et27
  have lt27 : kdLe t25 t27 := kdLe.eq (by rw [et27]; rfl)
  have qt27 : isC t27 a0 7 := by rw [et27]; exact g26
  refine gc_aloadn C 0 0 dX4_init_66 rfl rfl ?_
  refine gc_iconst C (-1) dX4_init_67 (by decide) ?_
  refine gc_putI C BX4 121 9 (by decide) rfl .int ft_121 vf_X4_41 rfl rfl (by decide +kernel) rfl rfl qt27 dX4_init_68 ?_
  refine gc_nameS (fun t28 et28 => ?_)
  have h := h t28 et28
  have lt28 : kdLe t27 t28 := kdLe.eq (by rw [et28]; rfl)
  have qt28 : isC t28 a0 7 := by rw [et28]; exact qt27
  refine gc_aloadn C 0 0 dX4_init_71 rfl rfl ?_
  refine gc_iloadn C 1 1 dX4_init_72 rfl rfl ?_
  refine gc_putIF C BX4 112 0 (by decide) rfl .int ft_112 vf_X4_45 rfl rfl E.2 rfl (by decide +kernel) rfl rfl qt28 dX4_init_73 ?_
  refine gc_nameS (fun t29 et29 => ?_)
  have h := h t29 et29
  have lt29 : kdLe t28 t29 := kdLe.eq (by rw [et29]; rfl)
  have qt29 : isC t29 a0 7 := by rw [et29]; exact qt28
  exact gc_vret C E (kdLe.tr lt3 (kdLe.tr lt6 (kdLe.tr lt9 (kdLe.tr lt12 (kdLe.tr lt15 (kdLe.tr lt18 (kdLe.tr lt19 (kdLe.tr lt21 (kdLe.tr lt24 (kdLe.tr lt25 (kdLe.tr lt27 (kdLe.tr lt28 lt29)))))))))))) dX4_init_76 ⟨rfl, h⟩
def v_X4_isRestLast (a0 : Nat) (t : CS) : Int32 := (if (¬ ((fI t 118 a0) ≤ 0)) ∧ ((fA t 113 a0 (Int32.toNatClampNeg ((fI t 118 a0) - 1))) = 1) then 1 else 0)
def d_X4_isRestLast (a0 : Nat) (t : CS) : Prop := (kdC t a0 = 7) ∧ ((¬ ((fI t 118 a0) ≤ 0)) → vp_in ((fI t 118 a0) - 1) (cLN 113))
theorem vb_X4_isRestLast {a0 : Nat} {t : CS} : gb (v_X4_isRestLast a0 t) := by unfold v_X4_isRestLast; split <;> first | exact Or.inr rfl | exact Or.inl rfl
set_option maxRecDepth 20000 in
theorem c_X4_isRestLast (l : Launch) (D : va_G) (K : Nat → ClassId) (E0 : Nat) (B : Nat × Nat) (A0 : Nat → Prop) (a0 : Nat) (t : CS) (h : d_X4_isRestLast a0 t) : MetC l yX4_isRestLast cX4_isRestLast 1 (some .boolean) 0 [.ref a0] (qI (fun r t' => (v_X4_isRestLast a0 t) = r ∧ t = t')) (fun _ _ => False) D K E0 B A0 t := by
  obtain ⟨u1, u2⟩ := h
  refine gc_start (by decide) rfl (Nat.le_of_ble_eq_true rfl) (fun p e s m args below meth c C E => ?_)
  refine gc_aloadn C 0 0 dX4_isRestLast_0 rfl rfl ?_
  refine gc_getI C BX4 118 6 (by decide) rfl ft_118 vf_X4_48 rfl (isC_of u1 (by decide)) dX4_isRestLast_1 ?_
  refine gc_if_le C 26 dX4_isRestLast_4 (by decide) (fun c4_1 => ?_) (fun c4_1 => ?_)
  · refine gc_iconst C 0 dX4_isRestLast_26 (by decide) ?_
    exact gc_zret C E (Or.inl rfl) (kdLe.rf _) dX4_isRestLast_27 ⟨_, rfl, (Eq.symm ((if_neg (fun q0 => q0.1 c4_1)).symm)), rfl⟩
  · refine gc_aloadn C 0 0 dX4_isRestLast_7 rfl rfl ?_
    refine gc_getE C BX4 113 1 (by decide) rfl fe_113 vf_X4_9 rfl u1 dX4_isRestLast_8 ?_
    refine gc_aloadn C 0 0 dX4_isRestLast_11 rfl rfl ?_
    refine gc_getI C BX4 118 6 (by decide) rfl ft_118 vf_X4_48 rfl (isC_of u1 (by decide)) dX4_isRestLast_12 ?_
    refine gc_iconst C 1 dX4_isRestLast_15 (by decide) ?_
    refine gc_isub C dX4_isRestLast_16 ?_
    refine gc_iald C (ci := 7) (k0 := 1) 113 (by decide) (by decide) (by decide) rfl ft_113 (by decide) u1 (u2 c4_1) dX4_isRestLast_17 ?_
    refine gc_iconst C 1 dX4_isRestLast_18 (by decide) ?_
    refine gc_icmp_ne C 26 dX4_isRestLast_19 (by decide) (fun c19_2 => ?_) (fun c19_2 => ?_)
    · refine gc_iconst C 0 dX4_isRestLast_26 (by decide) ?_
      exact gc_zret C E (Or.inl rfl) (kdLe.rf _) dX4_isRestLast_27 ⟨_, rfl, (Eq.symm ((if_neg (fun q0 => c19_2 q0.2)).symm)), rfl⟩
    · refine gc_iconst C 1 dX4_isRestLast_22 (by decide) ?_
      refine gc_goto C 27 dX4_isRestLast_23 (by decide) ?_
      exact gc_zret C E (Or.inr rfl) (kdLe.rf _) dX4_isRestLast_27 ⟨_, rfl, (Eq.symm ((if_pos ⟨c4_1, c19_2⟩).symm)), rfl⟩
def w_X9_lowestVoiceBeside_L2 (a0 : Nat) (a1 : Int32) (a2 : Int32) (t : CS) (Q : Int32 → CS → Prop) (K2 : Int32 → Prop) (z2 : Int32) : Prop := ((4 ≤ z2) → Q (-1) t) ∧ (¬ (4 ≤ z2) → ((¬ (z2 = a1)) → kdC t a0 = 12) ∧ ((¬ (z2 = a1)) → d_X9_row a0 z2 a2 t) ∧ ((¬ (z2 = a1)) → kdC t (v_X9_row a0 z2 a2 t) = 11) ∧ ((¬ (z2 = a1)) → d_X8_isEmpty (v_X9_row a0 z2 a2 t) t) ∧ (((z2 = a1) ∨ (¬ ((v_X8_isEmpty (v_X9_row a0 z2 a2 t) t) = 0))) → K2 (z2 + 1)) ∧ (¬ ((z2 = a1) ∨ (¬ ((v_X8_isEmpty (v_X9_row a0 z2 a2 t) t) = 0))) → Q z2 t))
def w_X9_lowestVoiceBeside (B : Nat × Nat) (a0 : Nat) (a1 : Int32) (a2 : Int32) (t : CS) (Q : Int32 → CS → Prop) (X : String → CS → Prop) : Prop := ∃ n, lp (w_X9_lowestVoiceBeside_L2 a0 a1 a2 t Q) n 0
set_option maxRecDepth 20000 in
set_option maxHeartbeats 2000000 in
theorem c_X9_lowestVoiceBeside (l : Launch) (D : va_G) (K : Nat → ClassId) (E0 : Nat) (B : Nat × Nat) (A0 : Nat → Prop) (a0 : Nat) (a1 : Int32) (a2 : Int32) (t : CS) (Q : Int32 → CS → Prop) (X : String → CS → Prop) (h : w_X9_lowestVoiceBeside B a0 a1 a2 t Q X) : MetC l yX9_lowestVoiceBeside cX9_lowestVoiceBeside 4 (some .int) 4 [.ref a0, .int a1, .int a2] (qI Q) X D K E0 B A0 t := by
  unfold w_X9_lowestVoiceBeside at h
  refine gc_start (by decide) rfl (Nat.le_of_ble_eq_true rfl) (fun p e s m args below meth c C E => ?_)
  refine gc_iconst C 0 dX9_lowestVoiceBeside_0 (by decide) ?_
  refine gc_istoren C 3 [(3, .int 0), (0, .ref a0), (1, .int a1), (2, .int a2)] dX9_lowestVoiceBeside_1 rfl (by decide) rfl ?_
  refine gc_sub [1, 2, 3, 0] rfl ?_
  obtain ⟨n2, h⟩ := h
  have k2 : ∀ (n2 : Nat) (z2 : Int32), lp (w_X9_lowestVoiceBeside_L2 a0 a1 a2 t Q) n2 z2 → GC p l e (rmC 4 B t) s m args below meth c 4 D K E0 B A0 (gc_Q below D K E0 A0 (qI Q) X args s t (rmC 4 B t)) t 2 [(0, .ref a0), (1, .int a1), (2, .int a2), (3, .int z2)] [] := by
    intro n2
    induction n2 with
    | zero => intro z2 h; exact h.elim
    | succ n2 ih2 =>
      intro z2 h
      have h : w_X9_lowestVoiceBeside_L2 a0 a1 a2 t Q (lp (w_X9_lowestVoiceBeside_L2 a0 a1 a2 t Q) n2) z2 := h
      unfold w_X9_lowestVoiceBeside_L2 at h
      refine gc_iloadn C 3 3 dX9_lowestVoiceBeside_2 rfl rfl ?_
      refine gc_iconst C 4 dX9_lowestVoiceBeside_3 (by decide) ?_
      refine gc_icmp_ge C 32 dX9_lowestVoiceBeside_4 (by decide) (fun c4_1 => ?_) (fun c4_1 => ?_)
      · have h := h.1 c4_1
        refine gc_iconst C (-1) dX9_lowestVoiceBeside_32 (by decide) ?_
        exact gc_iret C E (kdLe.rf _) dX9_lowestVoiceBeside_33 ⟨_, rfl, h⟩
      · have h := h.2 c4_1
        refine gc_iloadn C 3 3 dX9_lowestVoiceBeside_7 rfl rfl ?_
        refine gc_iloadn C 1 1 dX9_lowestVoiceBeside_8 rfl rfl ?_
        obtain ⟨g1, h⟩ := h
        obtain ⟨g2, h⟩ := h
        obtain ⟨g3, h⟩ := h
        obtain ⟨g4, h⟩ := h
        have kt7 : ((z2 = a1) ∨ (¬ ((v_X8_isEmpty (v_X9_row a0 z2 a2 t) t) = 0))) → GC p l e (rmC 4 B t) s m args below meth c 4 D K E0 B A0 (gc_Q below D K E0 A0 (qI Q) X args s t (rmC 4 B t)) t 26 [(0, .ref a0), (1, .int a1), (2, .int a2), (3, .int z2)] [] := by
          intro hc
          have h := h.1 hc
          refine gc_iinc C 3 (z2 + 1) [(3, .int (z2 + 1)), (0, .ref a0), (1, .int a1), (2, .int a2)] dX9_lowestVoiceBeside_26 rfl rfl (by decide) rfl ?_
          refine gc_goto C 2 dX9_lowestVoiceBeside_29 (by decide) ?_
          refine gc_sub [1, 2, 3, 0] rfl ?_
          have h9 := ih2 (z2 + 1) h
          exact h9
        have kf7 : ¬ ((z2 = a1) ∨ (¬ ((v_X8_isEmpty (v_X9_row a0 z2 a2 t) t) = 0))) → GC p l e (rmC 4 B t) s m args below meth c 4 D K E0 B A0 (gc_Q below D K E0 A0 (qI Q) X args s t (rmC 4 B t)) t 24 [(0, .ref a0), (1, .int a1), (2, .int a2), (3, .int z2)] [] := by
          intro hc
          have h := h.2 hc
          refine gc_iloadn C 3 3 dX9_lowestVoiceBeside_24 rfl rfl ?_
          exact gc_iret C E (kdLe.rf _) dX9_lowestVoiceBeside_25 ⟨_, rfl, h⟩
        refine gc_icmp_eq C 26 dX9_lowestVoiceBeside_9 (by decide) (fun c9_2 => ?_) (fun c9_2 => ?_)
        · exact kt7 (Or.inl c9_2)
        · refine gc_aloadn C 0 0 dX9_lowestVoiceBeside_12 rfl rfl ?_
          refine gc_iloadn C 3 3 dX9_lowestVoiceBeside_13 rfl rfl ?_
          refine gc_iloadn C 2 2 dX9_lowestVoiceBeside_14 rfl rfl ?_
          refine gc_callV C BX9 (y := yX9_row) (as := [.int z2, .int a2]) rfl (by decide) (by decide) (c_X9_row l D K E0 B A0 a0 z2 a2 t (g2 c9_2)) hk_X9_row rfl vl_X9_66 kc_X9_row (isC_of (g1 c9_2) (by decide)) dX9_lowestVoiceBeside_15 (Nat.le_of_ble_eq_true rfl) (fun _ _ h => h.elim) (qkRP ?_)
          refine gc_callV C BX8 (y := yX8_isEmpty) (as := []) rfl (by decide) (by decide) (c_X8_isEmpty l D K E0 B A0 (v_X9_row a0 z2 a2 t) t (g4 c9_2)) hk_X8_isEmpty rfl vl_X9_74 kc_X8_isEmpty (isC_of (g3 c9_2) (by decide)) dX9_lowestVoiceBeside_18 (Nat.le_of_ble_eq_true rfl) (fun _ _ h => h.elim) (qkIP ?_)
          refine gc_if_ne C 26 dX9_lowestVoiceBeside_21 (by decide) (fun c21_3 => ?_) (fun c21_3 => ?_)
          · exact kt7 (Or.inr c21_3)
          · exact kf7 (fun q0 => Or.elim q0 c9_2 (fun q1 => q1 c21_3))
  exact k2 n2 0 h
def w_X4_addItem (B : Nat × Nat) (a0 : Nat) (a1 : Int32) (a2 : Int32) (a3 : Int32) (t : CS) (Q : CS → Prop) (X : String → CS → Prop) : Prop := (kdC t a0 = 7) ∧ ∃ J59 : CS → Prop, (∀ t2 : CS, J59 t2 → (Q t2)) ∧ (((24 ≤ (fI t 118 a0)) → J59 t) ∧ (¬ (24 ≤ (fI t 118 a0)) → (vp_in (fI t 118 a0) (cLN 113)) ∧ ∀ t4 : CS, t4 = usA t 113 a0 (fI t 118 a0) a1 → (vp_in (fI t4 118 a0) (cLN 114)) ∧ ∀ t6 : CS, t6 = usA t4 114 a0 (fI t4 118 a0) a2 → (vp_in (fI t6 118 a0) (cLN 115)) ∧ ∀ t8 : CS, t8 = usA t6 115 a0 (fI t6 118 a0) 1 → (vp_in (fI t8 118 a0) (cLN 116)) ∧ ∀ t10 : CS, t10 = usA t8 116 a0 (fI t8 118 a0) a3 → ∀ t11 : CS, t11 = usI t10 118 a0 ((fI t10 118 a0) + 1) → J59 t11))
set_option maxRecDepth 20000 in
set_option maxHeartbeats 2000000 in
theorem c_X4_addItem (l : Launch) (D : va_G) (K : Nat → ClassId) (E0 : Nat) (B : Nat × Nat) (A0 : Nat → Prop) (a0 : Nat) (a1 : Int32) (a2 : Int32) (a3 : Int32) (t : CS) (Q : CS → Prop) (X : String → CS → Prop) (h : w_X4_addItem B a0 a1 a2 a3 t Q X) : MetC l yX4_addItem cX4_addItem 4 none 0 [.ref a0, .int a1, .int a2, .int a3] (qV Q) X D K E0 B A0 t := by
  unfold w_X4_addItem at h
  refine gc_start (by decide) rfl (Nat.le_of_ble_eq_true rfl) (fun p e s m args below meth c C E => ?_)
  refine gc_aloadn C 0 0 dX4_addItem_0 rfl rfl ?_
  obtain ⟨g1, h⟩ := h
  refine gc_getI C BX4 118 6 (by decide) rfl ft_118 vf_X4_48 rfl (isC_of g1 (by decide)) dX4_addItem_1 ?_
  refine gc_bipush C 24 dX4_addItem_4 (by decide) ?_
  obtain ⟨J59, hJ59, h⟩ := h
  have k59 : ∀ t2 : CS, kdLe t t2 → J59 t2 → GC p l e (rmC 0 B t) s m args below meth c 4 D K E0 B A0 (gc_Q below D K E0 A0 (qV Q) X args s t (rmC 0 B t)) t2 59 [] [] := by
    intro t2 lt2 h
    have h := hJ59 t2 h
    exact gc_vret C E lt2 dX4_addItem_59 ⟨rfl, h⟩
  refine gc_icmp_ge C 59 dX4_addItem_6 (by decide) (fun c6_1 => ?_) (fun c6_1 => ?_)
  · have h := h.1 c6_1
    refine gc_sub [] rfl ?_
    exact k59 t (kdLe.rf _) h
  · have h := h.2 c6_1
    refine gc_aloadn C 0 0 dX4_addItem_9 rfl rfl ?_
    refine gc_getE C BX4 113 1 (by decide) rfl fe_113 vf_X4_9 rfl g1 dX4_addItem_10 ?_
    refine gc_aloadn C 0 0 dX4_addItem_13 rfl rfl ?_
    refine gc_getI C BX4 118 6 (by decide) rfl ft_118 vf_X4_48 rfl (isC_of g1 (by decide)) dX4_addItem_14 ?_
    refine gc_iloadn C 1 1 dX4_addItem_17 rfl rfl ?_
    obtain ⟨g3, h⟩ := h
    refine gc_iast C (ci := 7) (k0 := 1) 113 (by decide) (by decide) (by decide) rfl ft_113 (by decide) g1 g3 dX4_addItem_18 ?_
    refine gc_nameS (fun t4 et4 => ?_)
    have h := h t4 et4
    have lt4 : kdLe t t4 := kdLe.eq (by rw [et4]; rfl)
    refine gc_aloadn C 0 0 dX4_addItem_19 rfl rfl ?_
    refine gc_getE C BX4 114 2 (by decide) rfl fe_114 vf_X4_15 rfl (kdLe.k lt4 g1 (by decide) (by decide)) dX4_addItem_20 ?_
    refine gc_aloadn C 0 0 dX4_addItem_23 rfl rfl ?_
    refine gc_getI C BX4 118 6 (by decide) rfl ft_118 vf_X4_48 rfl (isC_of (kdLe.k lt4 g1 (by decide) (by decide)) (by decide)) dX4_addItem_24 ?_
    refine gc_iloadn C 2 2 dX4_addItem_27 rfl rfl ?_
    obtain ⟨g5, h⟩ := h
    refine gc_iast C (ci := 7) (k0 := 2) 114 (by decide) (by decide) (by decide) rfl ft_114 (by decide) (kdLe.k lt4 g1 (by decide) (by decide)) g5 dX4_addItem_28 ?_
    refine gc_nameS (fun t6 et6 => ?_)
    have h := h t6 et6
    have lt6 : kdLe t4 t6 := kdLe.eq (by rw [et6]; rfl)
    refine gc_aloadn C 0 0 dX4_addItem_29 rfl rfl ?_
    refine gc_getE C BX4 115 3 (by decide) rfl fe_115 vf_X4_18 rfl (kdLe.k (kdLe.tr lt4 lt6) g1 (by decide) (by decide)) dX4_addItem_30 ?_
    refine gc_aloadn C 0 0 dX4_addItem_33 rfl rfl ?_
    refine gc_getI C BX4 118 6 (by decide) rfl ft_118 vf_X4_48 rfl (isC_of (kdLe.k (kdLe.tr lt4 lt6) g1 (by decide) (by decide)) (by decide)) dX4_addItem_34 ?_
    refine gc_iconst C 1 dX4_addItem_37 (by decide) ?_
    obtain ⟨g7, h⟩ := h
    refine gc_iast C (ci := 7) (k0 := 3) 115 (by decide) (by decide) (by decide) rfl ft_115 (by decide) (kdLe.k (kdLe.tr lt4 lt6) g1 (by decide) (by decide)) g7 dX4_addItem_38 ?_
    refine gc_nameS (fun t8 et8 => ?_)
    have h := h t8 et8
    have lt8 : kdLe t6 t8 := kdLe.eq (by rw [et8]; rfl)
    refine gc_aloadn C 0 0 dX4_addItem_39 rfl rfl ?_
    refine gc_getE C BX4 116 4 (by decide) rfl fe_116 vf_X4_21 rfl (kdLe.k (kdLe.tr lt4 (kdLe.tr lt6 lt8)) g1 (by decide) (by decide)) dX4_addItem_40 ?_
    refine gc_aloadn C 0 0 dX4_addItem_43 rfl rfl ?_
    refine gc_getI C BX4 118 6 (by decide) rfl ft_118 vf_X4_48 rfl (isC_of (kdLe.k (kdLe.tr lt4 (kdLe.tr lt6 lt8)) g1 (by decide) (by decide)) (by decide)) dX4_addItem_44 ?_
    refine gc_iloadn C 3 3 dX4_addItem_47 rfl rfl ?_
    obtain ⟨g9, h⟩ := h
    refine gc_iast C (ci := 7) (k0 := 4) 116 (by decide) (by decide) (by decide) rfl ft_116 (by decide) (kdLe.k (kdLe.tr lt4 (kdLe.tr lt6 lt8)) g1 (by decide) (by decide)) g9 dX4_addItem_48 ?_
    refine gc_nameS (fun t10 et10 => ?_)
    have h := h t10 et10
    have lt10 : kdLe t8 t10 := kdLe.eq (by rw [et10]; rfl)
    refine gc_aloadn C 0 0 dX4_addItem_49 rfl rfl ?_
    refine gc_dup C dX4_addItem_50 rfl ?_
    refine gc_getI C BX4 118 6 (by decide) rfl ft_118 vf_X4_48 rfl (isC_of (kdLe.k (kdLe.tr lt4 (kdLe.tr lt6 (kdLe.tr lt8 lt10))) g1 (by decide) (by decide)) (by decide)) dX4_addItem_51 ?_
    refine gc_iconst C 1 dX4_addItem_54 (by decide) ?_
    refine gc_iadd C dX4_addItem_55 ?_
    refine gc_putI C BX4 118 6 (by decide) rfl .int ft_118 vf_X4_48 rfl rfl (by decide +kernel) rfl rfl (isC_of (kdLe.k (kdLe.tr lt4 (kdLe.tr lt6 (kdLe.tr lt8 lt10))) g1 (by decide) (by decide)) (by decide)) dX4_addItem_56 ?_
    refine gc_nameS (fun t11 et11 => ?_)
    have h := h t11 et11
    have lt11 : kdLe t10 t11 := kdLe.eq (by rw [et11]; rfl)
    refine gc_sub [] rfl ?_
    exact k59 t11 (kdLe.tr lt4 (kdLe.tr lt6 (kdLe.tr lt8 (kdLe.tr lt10 lt11)))) h
def w_X4_partCueFromRest (B : Nat × Nat) (a0 : Nat) (a1 : Nat) (t : CS) (Q : CS → Prop) (X : String → CS → Prop) : Prop := (kdC t a0 = 7) ∧ (d_X4_isRestLast a0 t) ∧ ((¬ ((v_X4_isRestLast a0 t) = 0)) → vp_in ((fI t 118 a0) - 1) (cLN 115)) ∧ ((((v_X4_isRestLast a0 t) = 0) ∨ (¬ (4 ≤ (fA t 115 a0 (Int32.toNatClampNeg ((fI t 118 a0) - 1)))))) → Q t) ∧ (¬ (((v_X4_isRestLast a0 t) = 0) ∨ (¬ (4 ≤ (fA t 115 a0 (Int32.toNatClampNeg ((fI t 118 a0) - 1)))))) → (vp_in ((fI t 118 a0) - 1) (cLN 114)) ∧ (vp_in ((fI t 118 a0) - 1) (cLN 115)) ∧ ∀ x6 : Int32, x6 = (((fA t 114 a0 (Int32.toNatClampNeg ((fI t 118 a0) - 1))) + (fA t 115 a0 (Int32.toNatClampNeg ((fI t 118 a0) - 1)))) - 1) → (kdC t a1 = 12) ∧ w_X9_lowestVoiceBeside B a1 (fI t 112 a0) x6 t (fun r8 t8 => ∃ J86 : CS → Prop, (∀ t9 : CS, J86 t9 → (Q t9)) ∧ (((r8 = (-1)) → J86 t8) ∧ (¬ (r8 = (-1)) → (vp_in ((fI t8 118 a0) - 1) (cLN 115)) ∧ (vp_in ((fI t8 118 a0) - 1) (cLN 115)) ∧ ∀ t12 : CS, t12 = usA t8 115 a0 ((fI t8 118 a0) - 1) ((fA t8 115 a0 (Int32.toNatClampNeg ((fI t8 118 a0) - 1))) - 1) → w_X4_addItem B a0 2 x6 r8 t12 (fun t13 => J86 t13) X))) X)
set_option maxRecDepth 20000 in
set_option maxHeartbeats 2000000 in
theorem c_X4_partCueFromRest (l : Launch) (D : va_G) (K : Nat → ClassId) (E0 : Nat) (B : Nat × Nat) (A0 : Nat → Prop) (a0 : Nat) (a1 : Nat) (t : CS) (Q : CS → Prop) (X : String → CS → Prop) (h : w_X4_partCueFromRest B a0 a1 t Q X) : MetC l yX4_partCueFromRest cX4_partCueFromRest 4 none 5 [.ref a0, .ref a1] (qV Q) X D K E0 B A0 t := by
  unfold w_X4_partCueFromRest at h
  refine gc_start (by decide) rfl (Nat.le_of_ble_eq_true rfl) (fun p e s m args below meth c C E => ?_)
  refine gc_aloadn C 0 0 dX4_partCueFromRest_0 rfl rfl ?_
  obtain ⟨g1, h⟩ := h
  obtain ⟨g2, h⟩ := h
  refine gc_callV C BX4 (y := yX4_isRestLast) (as := []) rfl (by decide) (by decide) (c_X4_isRestLast l D K E0 B A0 a0 t g2) hk_X4_isRestLast rfl vl_X4_75 kc_X4_isRestLast (isC_of g1 (by decide)) dX4_partCueFromRest_1 (Nat.le_of_ble_eq_true rfl) (fun _ _ h => h.elim) (qkIP ?_)
  obtain ⟨g3, h⟩ := h
  have kt0 : (((v_X4_isRestLast a0 t) = 0) ∨ (¬ (4 ≤ (fA t 115 a0 (Int32.toNatClampNeg ((fI t 118 a0) - 1)))))) → GC p l e (rmC 5 B t) s m args below meth c 4 D K E0 B A0 (gc_Q below D K E0 A0 (qV Q) X args s t (rmC 5 B t)) t 22 [(0, .ref a0), (1, .ref a1)] [] := by
    intro hc
    have h := h.1 hc
    exact gc_vret C E (kdLe.rf _) dX4_partCueFromRest_22 ⟨rfl, h⟩
  have kf0 : ¬ (((v_X4_isRestLast a0 t) = 0) ∨ (¬ (4 ≤ (fA t 115 a0 (Int32.toNatClampNeg ((fI t 118 a0) - 1)))))) → GC p l e (rmC 5 B t) s m args below meth c 4 D K E0 B A0 (gc_Q below D K E0 A0 (qV Q) X args s t (rmC 5 B t)) t 23 [(0, .ref a0), (1, .ref a1)] [] := by
    intro hc
    have h := h.2 hc
    refine gc_aloadn C 0 0 dX4_partCueFromRest_23 rfl rfl ?_
    refine gc_getE C BX4 114 2 (by decide) rfl fe_114 vf_X4_15 rfl g1 dX4_partCueFromRest_24 ?_
    refine gc_aloadn C 0 0 dX4_partCueFromRest_27 rfl rfl ?_
    refine gc_getI C BX4 118 6 (by decide) rfl ft_118 vf_X4_48 rfl (isC_of g1 (by decide)) dX4_partCueFromRest_28 ?_
    refine gc_iconst C 1 dX4_partCueFromRest_31 (by decide) ?_
    refine gc_isub C dX4_partCueFromRest_32 ?_
    obtain ⟨g4, h⟩ := h
    refine gc_iald C (ci := 7) (k0 := 2) 114 (by decide) (by decide) (by decide) rfl ft_114 (by decide) g1 g4 dX4_partCueFromRest_33 ?_
    refine gc_aloadn C 0 0 dX4_partCueFromRest_34 rfl rfl ?_
    refine gc_getE C BX4 115 3 (by decide) rfl fe_115 vf_X4_18 rfl g1 dX4_partCueFromRest_35 ?_
    refine gc_aloadn C 0 0 dX4_partCueFromRest_38 rfl rfl ?_
    refine gc_getI C BX4 118 6 (by decide) rfl ft_118 vf_X4_48 rfl (isC_of g1 (by decide)) dX4_partCueFromRest_39 ?_
    refine gc_iconst C 1 dX4_partCueFromRest_42 (by decide) ?_
    refine gc_isub C dX4_partCueFromRest_43 ?_
    obtain ⟨g5, h⟩ := h
    refine gc_iald C (ci := 7) (k0 := 3) 115 (by decide) (by decide) (by decide) rfl ft_115 (by decide) g1 g5 dX4_partCueFromRest_44 ?_
    refine gc_iadd C dX4_partCueFromRest_45 ?_
    refine gc_iconst C 1 dX4_partCueFromRest_46 (by decide) ?_
    refine gc_isub C dX4_partCueFromRest_47 ?_
    refine gc_nameI (fun x6 ex6 => ?_)
    have h := h x6 ex6
    refine gc_istoren C 2 [(2, .int x6), (0, .ref a0), (1, .ref a1)] dX4_partCueFromRest_48 rfl (by decide) rfl ?_
    refine gc_aloadn C 2 1 dX4_partCueFromRest_49 rfl rfl ?_
    refine gc_aloadn C 1 0 dX4_partCueFromRest_50 rfl rfl ?_
    refine gc_getI C BX4 112 0 (by decide) rfl ft_112 vf_X4_45 rfl (isC_of g1 (by decide)) dX4_partCueFromRest_51 ?_
    refine gc_iloadn C 0 2 dX4_partCueFromRest_54 rfl rfl ?_
    obtain ⟨g7, h⟩ := h
    refine gc_callV C BX9 (y := yX9_lowestVoiceBeside) (as := [.int (fI t 112 a0), .int x6]) rfl (by decide) (by decide) (c_X9_lowestVoiceBeside l D K E0 B A0 a1 (fI t 112 a0) x6 t _ X h) hk_X9_lowestVoiceBeside rfl vl_X4_86 kc_X9_lowestVoiceBeside (isC_of g7 (by decide)) dX4_partCueFromRest_55 (Nat.le_of_ble_eq_true rfl) (fun _ _ h => h) (qkI (fun r8 t8 h lt8 => ?_))
    refine gc_istoren C 3 [(3, .int r8), (2, .int x6), (0, .ref a0), (1, .ref a1)] dX4_partCueFromRest_58 rfl (by decide) rfl ?_
    refine gc_iloadn C 0 3 dX4_partCueFromRest_59 rfl rfl ?_
    refine gc_iconst C (-1) dX4_partCueFromRest_60 (by decide) ?_
    obtain ⟨J86, hJ86, h⟩ := h
    have k86 : ∀ t9 : CS, kdLe t8 t9 → J86 t9 → GC p l e (rmC 5 B t) s m args below meth c 4 D K E0 B A0 (gc_Q below D K E0 A0 (qV Q) X args s t (rmC 5 B t)) t9 86 [] [] := by
      intro t9 lt9 h
      have h := hJ86 t9 h
      exact gc_vret C E (kdLe.tr lt8 lt9) dX4_partCueFromRest_86 ⟨rfl, h⟩
    refine gc_icmp_eq C 86 dX4_partCueFromRest_61 (by decide) (fun c61_3 => ?_) (fun c61_3 => ?_)
    · have h := h.1 c61_3
      refine gc_sub [] rfl ?_
      exact k86 t8 (kdLe.rf _) h
    · have h := h.2 c61_3
      refine gc_aloadn C 2 0 dX4_partCueFromRest_64 rfl rfl ?_
      refine gc_getE C BX4 115 3 (by decide) rfl fe_115 vf_X4_18 rfl (kdLe.k lt8 g1 (by decide) (by decide)) dX4_partCueFromRest_65 ?_
      refine gc_aloadn C 2 0 dX4_partCueFromRest_68 rfl rfl ?_
      refine gc_getI C BX4 118 6 (by decide) rfl ft_118 vf_X4_48 rfl (isC_of (kdLe.k lt8 g1 (by decide) (by decide)) (by decide)) dX4_partCueFromRest_69 ?_
      refine gc_iconst C 1 dX4_partCueFromRest_72 (by decide) ?_
      refine gc_isub C dX4_partCueFromRest_73 ?_
      refine gc_dup2 C dX4_partCueFromRest_74 rfl rfl ?_
      obtain ⟨g10, h⟩ := h
      refine gc_iald C (ci := 7) (k0 := 3) 115 (by decide) (by decide) (by decide) rfl ft_115 (by decide) (kdLe.k lt8 g1 (by decide) (by decide)) g10 dX4_partCueFromRest_75 ?_
      refine gc_iconst C 1 dX4_partCueFromRest_76 (by decide) ?_
      refine gc_isub C dX4_partCueFromRest_77 ?_
      obtain ⟨g11, h⟩ := h
      refine gc_iast C (ci := 7) (k0 := 3) 115 (by decide) (by decide) (by decide) rfl ft_115 (by decide) (kdLe.k lt8 g1 (by decide) (by decide)) g11 dX4_partCueFromRest_78 ?_
      refine gc_nameS (fun t12 et12 => ?_)
      have h := h t12 et12
      have lt12 : kdLe t8 t12 := kdLe.eq (by rw [et12]; rfl)
      refine gc_aloadn C 2 0 dX4_partCueFromRest_79 rfl rfl ?_
      refine gc_iconst C 2 dX4_partCueFromRest_80 (by decide) ?_
      refine gc_iloadn C 1 2 dX4_partCueFromRest_81 rfl rfl ?_
      refine gc_iloadn C 0 3 dX4_partCueFromRest_82 rfl rfl ?_
      refine gc_callV C BX4 (y := yX4_addItem) (as := [.int 2, .int x6, .int r8]) rfl (by decide) (by decide) (c_X4_addItem l D K E0 B A0 a0 2 x6 r8 t12 _ X h) hk_X4_addItem rfl vl_X4_71 kc_X4_addItem (isC_of (kdLe.k (kdLe.tr lt8 lt12) g1 (by decide) (by decide)) (by decide)) dX4_partCueFromRest_83 (Nat.le_of_ble_eq_true rfl) (fun _ _ h => h) (qkV (fun t13 h lt13 => ?_))
      refine gc_sub [] rfl ?_
      exact k86 t13 (kdLe.tr lt12 lt13) h
  refine gc_if_eq C 22 dX4_partCueFromRest_4 (by decide) (fun c4_1 => ?_) (fun c4_1 => ?_)
  · exact kt0 (Or.inl c4_1)
  · refine gc_aloadn C 0 0 dX4_partCueFromRest_7 rfl rfl ?_
    refine gc_getE C BX4 115 3 (by decide) rfl fe_115 vf_X4_18 rfl g1 dX4_partCueFromRest_8 ?_
    refine gc_aloadn C 0 0 dX4_partCueFromRest_11 rfl rfl ?_
    refine gc_getI C BX4 118 6 (by decide) rfl ft_118 vf_X4_48 rfl (isC_of g1 (by decide)) dX4_partCueFromRest_12 ?_
    refine gc_iconst C 1 dX4_partCueFromRest_15 (by decide) ?_
    refine gc_isub C dX4_partCueFromRest_16 ?_
    refine gc_iald C (ci := 7) (k0 := 3) 115 (by decide) (by decide) (by decide) rfl ft_115 (by decide) g1 (g3 c4_1) dX4_partCueFromRest_17 ?_
    refine gc_iconst C 4 dX4_partCueFromRest_18 (by decide) ?_
    refine gc_icmp_ge C 23 dX4_partCueFromRest_19 (by decide) (fun c19_2 => ?_) (fun c19_2 => ?_)
    · exact kf0 (fun q0 => Or.elim q0 c4_1 (fun q1 => q1 c19_2))
    · exact kt0 (Or.inr c19_2)
