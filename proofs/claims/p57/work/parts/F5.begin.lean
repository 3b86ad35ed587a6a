/-! P57: FROM THE ENTRY TO THE LOOP -/
theorem uP_4 (S : CS) (o : Nat) : uP S o ≤ 4 := by
  unfold uP
  have f : ∀ x : Option Nat, (if x = none then 1 else 0 : Nat) ≤ 1 := fun x => by
    by_cases h : x = none
    · rw [if_pos h]
      exact Nat.le_refl _
    · rw [if_neg h]
      exact Nat.zero_le _
  have h0 := f (fQ S 226 o 0)
  have h1 := f (fQ S 226 o 1)
  have h2 := f (fQ S 226 o 2)
  have h3 := f (fQ S 226 o 3)
  omega
theorem Jp_start {o N : Nat} {t : CS} (hN : N ≤ 1000000) (hk : kdC t o = 114) (hz : szC t = o + 1) : Jp (szC (st11 o t) + N + 80, nsC (st11 o t) + 10 * N + 2640) o (o + 1) (o + 6) N (st11 o t) m_t0 := by
  have hu := uP_4 (st11 o t) o
  refine ⟨Jo_0 hN hk hz, ?_, ?_⟩
  · show szC (st11 o t) + N + 20 * uP (st11 o t) o ≤ (szC (st11 o t) + N + 80) + _ + _
    omega
  · show nsC (st11 o t) + 10 * N + 660 * uP (st11 o t) o ≤ (nsC (st11 o t) + 10 * N + 2640) + 5 * _ + 4 * _
    omega
theorem t0_n : zN m_t0 = 0 := by decide
theorem t0_p : nP m_t0 = 0 := by
  unfold nP lP
  rw [t0_n]
  rfl
theorem t0_s (h : gOK m_t0 (zOr m_t0)) : nS m_t0 = 0 := by
  have h1 := gOK_len h
  have h3 : (zOr m_t0).length = zTo m_t0 (zPl m_t0 (zN m_t0)) := h1
  rw [t0_n] at h3
  unfold nS
  rw [h3]
  rfl
theorem t0_ph : zPh m_t0 (aN (m_t0.1 14)) = 0 := by
  have e : aN (m_t0.1 14) = 0 := by decide
  rw [e]
  rfl
theorem t0_W : gdW m_t0 := by
  refine ⟨fun v i j hv hi hj => ?_, fun v hv => ?_⟩
  · rw [t0_n] at hi
    exact absurd hi (Nat.not_lt_zero _)
  · show ¬ v_in 0 (-12) 12 = 0
    decide
theorem cst_0 : cst 0 = 417000 := by decide
section LW
variable {p : Program} {l : Launch} {e : Env} {s : State} {m : MethodId} {b : Nat} {below : List Frame} {meth : Method} {c : Code} {L : Nat} {xs : Nat → Int32}
variable {hd : Cond} {D : va_G} {K : Nat → ClassId} {E0 : Nat} {b' : Nat × Nat} {o so po ga ta : Nat}
/-- from the first asking to the loop -/
theorem l_ask (C : rx_Cx p l s m #[Value.ref b] c meth code 7 hd D K E0 (lB s) s.heap.size room_1) (hr : meth.sig.returnType = ret) (hX : va_X b L xs s s.heap) (hbl : b < s.heap.size) (hL : L ≤ 260) (hb : hB b' (lB s)) (hne : ga ≠ ta) (S : CS) (r : LR) (I : lwI b' o so po r ga ta (cst 0 + 10 + 4500 + 3) S m_t0) : GR p l e room_1 s m #[Value.ref b] below meth c 7 D K E0 (lB s) s.heap.size (lw_Z below #[Value.ref b] s) (S, r) 31 [(3, .ref ta), (2, .ref ga), (1, .ref o), (0, .ref b)] [] := by
  obtain ⟨b1, b2, b3⟩ := rd_bars I.1
  rw [t0_n] at b3
  refine gr_aloadn C 2 1 dL_law_31 rfl rfl ?_
  refine gr_callVP C (y := yX11_bars) (as := []) (by exact ⟨Nat.le_of_ble_eq_true rfl, Nat.le_of_ble_eq_true rfl⟩) (fun B1 => c_X11_bars l D K E0 B1 _ o S b2) hk_X11_bars rfl vl_L_200 kc_X11_bars (isC_of b1 (by decide)) dL_law_32 (Nat.le_of_ble_eq_true rfl) ?_
  refine gr_if_ne C 72 dL_law_35 (by decide) (fun z => absurd b3 z) (fun _ => ?_)
  obtain ⟨hk1, B1, hB1, hR1, h⟩ := rd_places (n := cst 0 + 10 + 4500 + 2) (r := r) (N := fun x t => x = 0 ∧ ∃ S', t = ((S', r) : LwS) ∧ Jp b' o so po (cst 0 + 10 + 4500 + 2) S' m_t0) hb I.1 (fun S' J' => ⟨by rw [t0_p]; rfl, S', rfl, J'⟩)
  refine gr_aloadn C 2 1 dL_law_38 rfl rfl ?_
  refine gr_call C (y := yX11_places) (as := []) (by exact ⟨Nat.le_of_ble_eq_true rfl, Nat.le_of_ble_eq_true rfl⟩) B1 hB1 hR1 (c_X11_places l D K E0 B1 _ o S _ _ h) hk_X11_places rfl vl_L_180 kc_X11_places (isC_of hk1 (by decide)) dL_law_39 (Nat.le_of_ble_eq_true rfl) (fun _ _ h => h.elim) ?_
  rintro v S1 ⟨r1, rfl, h⟩ _ z1 z2
  obtain ⟨rfl, S1', he1, J1⟩ := h z1 z2
  cases he1
  refine gr_if_ne C 72 dL_law_42 (by decide) (fun z => absurd rfl z) (fun _ => ?_)
  obtain ⟨hk2, B2, hB2, hR2, h⟩ := rd_soundsG (n := cst 0 + 10 + 4500 + 1) (r := r) (N := fun x t => x = 0 ∧ ∃ S', t = ((S', r) : LwS) ∧ Jp b' o so po (cst 0 + 10 + 4500 + 1) S' m_t0) hb J1 (fun g _ S' J' => ⟨by rw [t0_s g]; rfl, S', rfl, J'⟩)
  refine gr_aloadn C 2 1 dL_law_45 rfl rfl ?_
  refine gr_call C (y := yX11_sounds) (as := []) (by exact ⟨Nat.le_of_ble_eq_true rfl, Nat.le_of_ble_eq_true rfl⟩) B2 hB2 hR2 (c_X11_sounds l D K E0 B2 _ o S1 _ _ h) hk_X11_sounds rfl vl_L_210 kc_X11_sounds (isC_of hk2 (by decide)) dL_law_46 (Nat.le_of_ble_eq_true rfl) (fun _ _ h => h.elim) ?_
  rintro v S2 ⟨r2, rfl, h⟩ _ z1 z2
  obtain ⟨rfl, S2', he2, J2⟩ := h z1 z2
  cases he2
  refine gr_if_ne C 72 dL_law_49 (by decide) (fun z => absurd rfl z) (fun _ => ?_)
  obtain ⟨hk3, B3, hB3, hR3, h⟩ := rd_phrases (n := cst 0 + 10 + 4500) (r := r) (N := fun x t => x = 0 ∧ ∃ S', t = ((S', r) : LwS) ∧ Jp b' o so po (cst 0 + 10 + 4500) S' m_t0) hb J2 (fun S' J' => ⟨t0_ph, S', rfl, J'⟩)
  refine gr_aloadn C 2 1 dL_law_52 rfl rfl ?_
  refine gr_call C (y := yX11_phrases) (as := []) (by exact ⟨Nat.le_of_ble_eq_true rfl, Nat.le_of_ble_eq_true rfl⟩) B3 hB3 hR3 (c_X11_phrases l D K E0 B3 _ o S2 _ _ h) hk_X11_phrases rfl vl_L_329 kc_X11_phrases (isC_of hk3 (by decide)) dL_law_53 (Nat.le_of_ble_eq_true rfl) (fun _ _ h => h.elim) ?_
  rintro v S3 ⟨r3, rfl, h⟩ _ z1 z2
  obtain ⟨rfl, S3', he3, J3⟩ := h z1 z2
  cases he3
  refine gr_if_ne C 72 dL_law_56 (by decide) (fun z => absurd rfl z) (fun _ => ?_)
  refine gr_aloadn C 2 1 dL_law_59 rfl rfl ?_
  refine gr_aloadn C 1 2 dL_law_60 rfl rfl ?_
  refine gr_iconst C 0 dL_law_61 (by decide) ?_
  have hz := Jp_sz (k := 0) hb (Jp_dn (m := cst 0 + 10 + 4500 + 0) J3 (Nat.le_refl _))
  refine gr_callS C (y := yL_isSo) (as := [.ref o, .ref ga, .int 0]) (by exact ⟨Nat.le_of_ble_eq_true rfl, Nat.le_of_ble_eq_true rfl⟩) (lB s) ⟨Nat.le_refl _, Nat.le_refl _⟩ ⟨by show szC S3 ≤ _; omega, by show nsC S3 ≤ _; omega⟩ (c_L_isSo l D K E0 s.heap.size (lB s) o ga 0 (S3, r) (fun v t => v = 1 ∧ ∃ S2 r2, t = ((S2, r2) : LwS) ∧ lwI b' o so po r2 ga ta (cst 0 + 10) S2 m_t0) (pf_isSo (n := cst 0 + 10) hb J3 I.2.2.1 (gdW_mk t0_W) (fun S2 r2 J2 hr2 => ⟨rfl, S2, r2, rfl, J2, I.2.1, gRow_e I.2.2.1 hr2, tRow_e I.2.2.2 hr2⟩))) hk_L_isSo rfl fs_347 kc_L_isSo dL_law_62 (Nat.le_of_ble_eq_true rfl) (fun r1 t1 h z1 z2 => ?_)
  obtain ⟨rfl, S4, r4, rfl, I4⟩ := h
  refine gr_if_eq C 72 dL_law_65 (by decide) (fun z => absurd z one_ne) (fun _ => ?_)
  refine gr_iconst C 1 dL_law_68 (by decide) ?_
  refine gr_goto C 73 dL_law_69 (by decide) ?_
  refine gr_istore C [(4, .int 1), (3, .ref ta), (2, .ref ga), (1, .ref o), (0, .ref b)] dL_law_73 (by decide) rfl ?_
  refine gr_iconst C 0 dL_law_75 (by decide) ?_
  refine gr_istore C [(5, .int (nI 0)), (4, .int 1), (3, .ref ta), (2, .ref ga), (1, .ref o), (0, .ref b)] dL_law_76 (by decide) rfl ?_
  exact l_loop C hr hX hbl hL hb hne 150 0 rfl S4 m_t0 r4 I4
end LW
theorem whole_of {p : Program} {e : Env} {s : State} {m : MethodId} {below : List Frame} {meth : Method} {c : Code} (l : Launch) (hflags : l.flags = flags0) {b L : Nat} {xs : Nat → Int32} (hL : L ≤ 260) (C0 : lw_At p s m meth c b L xs) : W p l e room_1 s m #[Value.ref b] below meth c s.heap [] 0 0 (lw_Z below #[Value.ref b] s) (entryFrame m ([Value.ref b] : List Value).toArray 7) := by
  obtain ⟨hx, hcode, hret, hml, hown, hts, hX, hbl, hlk, hg⟩ := C0
  obtain ⟨D, K, hK⟩ := l_KD hts
  obtain ⟨E0, hSt⟩ := l_StC (A := rW s.heap.size) hts hg (fun a h1 h2 => Nat.lt_irrefl _ (Nat.lt_of_lt_of_le h1 h2))
  have hst : l.stackTraces = false := by
    unfold Launch.stackTraces
    rw [hflags]
    decide +kernel
  have C : rx_Cx p l s m #[Value.ref b] c meth code 7 (Cond.instantiable RX11 3) D K E0 (lB s) s.heap.size room_1 := ⟨hx, hcode, hml, hown, fun w hw => by
    rcases List.mem_cons.mp hw with h | h
    · rw [h]; exact hts _ (wU_in BXi)
    · exact hts w (wU_in h), hK, ⟨(Nat.add_sub_cancel_left _ _).symm, (Nat.add_sub_cancel_left _ _).symm⟩, hSt, hst, hlk, Nat.le_refl _, l_Ev hts hg, l_Nc hg⟩
  obtain ⟨S00, hS00⟩ : ∃ S : CS, S = mkC (fun _ => 0) (fun _ _ => 0) (fun _ _ _ => 0) (fun _ _ => 0) (fun _ _ => none) (fun _ _ _ => none) (fun _ _ => []) (fun _ _ => 0) s.heap.size (hsl s.heap) := ⟨_, rfl⟩
  have k0 : ∀ q, kdC S00 q = 0 := fun q => by rw [hS00]; rfl
  have k1 : szC S00 = s.heap.size := by rw [hS00]; rfl
  have k2 : nsC S00 = hsl s.heap := by rw [hS00]; rfl
  have hl1 : szC S00 + 600000 ≤ (lB s).1 := by rw [k1]; unfold lB; show _ ≤ s.heap.size + _; omega
  have hl2 : nsC S00 + 6000000 ≤ (lB s).2 := by rw [k2]; unfold lB; show _ ≤ hsl s.heap + _; omega
  have c1 : cNE 14 = 1 ∧ cNF 14 = 3 := by decide +kernel
  have kA : kdC (newO S00 14) (szC S00) = 114 := by
    rw [s_newO_kdC, va_up_at, if_pos rfl, c1.1]
    rfl
  have zA : szC (newO S00 14) = szC S00 + 1 := by rw [s_newO_szC]
  have nA : nsC (newO S00 14) = nsC S00 + 3 := by rw [s_newO_nsC, c1.2]
  obtain ⟨o, ho⟩ : ∃ o, o = szC S00 := ⟨_, rfl⟩
  obtain ⟨T0, hT0⟩ : ∃ T, T = newO S00 14 := ⟨_, rfl⟩
  rw [← ho, ← hT0] at kA
  rw [← hT0] at zA nA
  have zA' : szC T0 = o + 1 := by rw [zA, ho]
  obtain ⟨S1, hS1⟩ : ∃ S, S = st11 o T0 := ⟨_, rfl⟩
  have hJ0 := Jp_start (N := cst 0 + 10 + 4500 + 3 + 3 + 3) (by rw [cst_0]; decide) kA zA'
  rw [← hS1] at hJ0
  have hw : w_X11_init (szC S00 + 14, nsC S00 + 149) o T0 (fun S' => S' = S1) (fun _ _ => False) := i_X11 kA zA' ⟨by rw [zA]; exact Nat.le_refl _, by rw [nA]; exact Nat.le_refl _⟩ hS1.symm
  have hG0 : RepC D K E0 S00 ((fun _ => (0, 0)), (fun _ _ => none), (fun _ _ => 0)) s.heap :=
    ⟨fun a r o h1 h2 => absurd (congrArg Prod.fst h1).symm h2, fun o h => absurd (k0 o) h, k1.symm, k2.symm⟩
  have key : GR p l e room_1 s m #[Value.ref b] below meth c 7 D K E0 (lB s) s.heap.size (lw_Z below #[Value.ref b] s) (S00, fun _ => none) 0 (lv_args 0 [.ref b]) [] := by
    refine gr_new14 C ⟨by show szC S00 + 1 ≤ _; omega, by show nsC S00 + 3 ≤ _; omega⟩ rfl dL_law_0 (fun hz => ?_)
    show GR p l e room_1 s m #[Value.ref b] below meth c 7 D K E0 (lB s) s.heap.size (lw_Z below #[Value.ref b] s) (newO S00 14, fun _ => none) 3 (lv_args 0 [.ref b]) [.ref (szC S00)]
    rw [← ho, ← hT0]
    refine gr_dup C dL_law_3 rfl ?_
    refine gr_init14 C (szC S00 + 14, nsC S00 + 149) ⟨by show szC S00 + 14 ≤ _; omega, by show nsC S00 + 149 ≤ _; omega⟩ ⟨by show szC T0 ≤ szC S00 + 14; omega, by show nsC T0 ≤ nsC S00 + 149; omega⟩ (c_X11_init l D K E0 (szC S00 + 14, nsC S00 + 149) _ o T0 _ _ hw) (by exact ⟨Nat.le_of_ble_eq_true rfl, Nat.le_of_ble_eq_true rfl⟩) dL_law_4 (Nat.le_of_ble_eq_true rfl) (fun S' hp hz1 hz2 => ?_)
    subst hp
    have hz1' : szC S' ≤ szC S00 + 14 := hz1
    have hz2' : nsC S' ≤ nsC S00 + 149 := hz2
    have hb : hB (szC S' + (cst 0 + 10 + 4500 + 3 + 3 + 3) + 80, nsC S' + 10 * (cst 0 + 10 + 4500 + 3 + 3 + 3) + 2640) (lB s) := by
      rw [cst_0]
      refine ⟨?_, ?_⟩
      · show szC S' + (417000 + 10 + 4500 + 3 + 3 + 3) + 80 + 10000 ≤ _
        omega
      · show nsC S' + 10 * (417000 + 10 + 4500 + 3 + 3 + 3) + 2640 + 42000 ≤ _
        omega
    have J1 := Jp_new (m := 4) hJ0 (by decide)
    have J2 := Jp_new (m := 4) J1 (by decide)
    refine gr_astoren C 1 [(1, .ref o), (0, .ref b)] dL_law_7 rfl (by decide) rfl ?_
    refine gr_iconst C 4 dL_law_8 (by decide) ?_
    refine gr_newarr C (n := 4) (N := 4) f_arr (by decide) (by decide +kernel) (by decide) ⟨by show szC S' + 1 ≤ _; omega, by show nsC S' + 4 ≤ _; omega⟩ dL_law_9 (fun _ => ?_)
    refine gr_astoren C 2 [(2, .ref (szC S')), (1, .ref o), (0, .ref b)] dL_law_11 rfl (by decide) rfl ?_
    refine gr_iconst C 4 dL_law_12 (by decide) ?_
    refine gr_newarr C (n := 4) (N := 4) f_arr (by decide) (by decide +kernel) (by decide) ⟨by show szC S' + 1 + 1 ≤ _; omega, by show nsC S' + 4 + 4 ≤ _; omega⟩ dL_law_13 (fun _ => ?_)
    obtain ⟨ga, hga⟩ : ∃ ga, ga = szC S' := ⟨_, rfl⟩
    obtain ⟨ta, hta⟩ : ∃ ta, ta = szC S' + 1 := ⟨_, rfl⟩
    have hne : ga ≠ ta := by omega
    obtain ⟨S2, hS2⟩ : ∃ S2, S2 = rsz (rsz S' (szC S' + 1) (nsC S' + 4)) (szC S' + 1 + 1) (nsC S' + 4 + 4) := ⟨_, rfl⟩
    have J2' : Jp (szC S' + (cst 0 + 10 + 4500 + 3 + 3 + 3) + 80, nsC S' + 10 * (cst 0 + 10 + 4500 + 3 + 3 + 3) + 2640) o (o + 1) (o + 6) (cst 0 + 10 + 4500 + 3) S2 m_t0 := by
      rw [hS2]
      exact J2
    have est : rNw (rNw ((S', fun _ => none) : LwS) 4) 4 = ((S2, rPut (rPut (fun _ => none) ga (4, fun _ => 0)) ta (4, fun _ => 0)) : LwS) := by
      rw [hS2, hga, hta]
      rfl
    show GR p l e room_1 s m #[Value.ref b] below meth c 7 D K E0 (lB s) s.heap.size (lw_Z below #[Value.ref b] s) (rNw (rNw ((S', fun _ => none) : LwS) 4) 4) 15 [(2, .ref (szC S')), (1, .ref o), (0, .ref b)] [.ref (szC S' + 1)]
    rw [est, ← hta, ← hga]
    refine gr_astoren C 3 [(3, .ref ta), (2, .ref ga), (1, .ref o), (0, .ref b)] dL_law_15 rfl (by decide) rfl ?_
    have nG : ∀ f : Nat → Int32, rN (rPut (rPut (fun _ => none) ga (4, f)) ta (4, fun _ => 0)) ga = 4 := fun f => by rw [rN_put2 hne, rN_put]
    have vp : ∀ k : Nat, k < 4 → vp_in (nI k) 4 := fun k hk => vp_nI (n := 4) hk (by decide)
    refine gr_aloadn C 1 2 dL_law_16 rfl rfl ?_
    refine gr_iconst C 1 dL_law_17 (by decide) ?_
    refine gr_bipush C 120 dL_law_18 (by decide) ?_
    refine gr_iast C (by show vp_in 1 (rN (rPut _ ta _) ga); rw [nG]; exact vp 1 (by decide)) dL_law_20 ?_
    rw [rSt_put2 hne]
    refine gr_aloadn C 1 2 dL_law_21 rfl rfl ?_
    refine gr_iconst C 2 dL_law_22 (by decide) ?_
    refine gr_iconst C 4 dL_law_23 (by decide) ?_
    refine gr_iast C (by show vp_in 2 (rN (rPut _ ta _) ga); rw [nG]; exact vp 2 (by decide)) dL_law_24 ?_
    rw [rSt_put2 hne]
    refine gr_aloadn C 1 2 dL_law_25 rfl rfl ?_
    refine gr_iconst C 3 dL_law_26 (by decide) ?_
    refine gr_sipush C 1500 dL_law_27 (by decide) ?_
    refine gr_iast C (by show vp_in 3 (rN (rPut _ ta _) ga); rw [nG]; exact vp 3 (by decide)) dL_law_30 ?_
    rw [rSt_put2 hne]
    refine l_ask C hret hX hbl hL hb hne S2 _ ⟨J2', t0_W, ⟨_, by rw [rPut_ne hne, rPut_at], ?_, ?_, ?_, ?_⟩, ⟨fun _ => 0, by rw [rPut_at], fun v _ => rfl⟩⟩
    · decide
    · decide
    · decide
    · decide
  have hl := lv_entry [.ref b] (n := 7) (Nat.le_of_ble_eq_true rfl)
  rw [lg_entry_eq]
  have kk := key _ s.heap [] _ hG0 (fun q hq => hq.elim (fun h => absurd rfl h) (fun h => ⟨by rw [← k1]; exact h, rfl⟩)) (fun a x hx => by cases hx) va_S.rf (Nat.le_refl _) (by show szC S00 ≤ _; omega) (by show nsC S00 ≤ _; omega) hl
  rw [Nat.sub_self, Nat.sub_self] at kk
  exact kk
