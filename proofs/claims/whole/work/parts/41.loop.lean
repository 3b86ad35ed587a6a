/-! THE LAW'S LOOP -/
theorem l_sub7 {L : Nat} (h : L ≤ 3584) : (Int32.ofNat L - 7).toInt = (L : Int) - 7 := by
  have h1 : (Int32.ofNat L).toInt = (L : Int) := nI_toInt (n := L) (by omega)
  rw [Int32.toInt_sub, h1, show (7 : Int32).toInt = 7 from rfl]
  simp only [Int.bmod]
  split <;> omega
theorem l_in {a k L : Nat} (h : a + k < L) (hL : L ≤ 3584) : vp_in (nI a + nI k) L := by
  have e : nI a + nI k = nI (a + k) := (Int32.ofNat_add a k).symm
  rw [e]
  intro h9
  rcases h9 with h9 | h9
  · exact nI_pos (n := a + k) (by omega) h9
  · rw [nI_clamp (by omega)] at h9
    omega
section LL
variable {p : Program} {l : Launch} {e : Env} {s : State} {m : MethodId} {b : Nat} {below : List Frame} {meth : Method} {c : Code} {L : Nat} {xs : Nat → Int32}
variable {D : va_G} {K : Nat → ClassId} {E0 : Nat} {mo ao : Nat}
set_option maxRecDepth 20000 in
theorem l_loop (C : lx_Cx p l s m b c meth L xs D K E0 mo ao) {o : Nat} {I : Nat → CS → MS → Prop} (Sm : Sim (lB s) o I) (hL : L ≤ 3584) : ∀ (n j : Nat), n + j = 512 → ∀ (S : CS) (ov : Nat → Int64) (t : MS), I n S t → GL p l e s m b below meth c D K E0 mo ao (lw_Z below #[Value.ref b] s) S ov t 23 [(4, .int (nI (7 * j))), (3, .ref ao), (2, .ref mo), (1, .ref o), (0, .ref b)] [] := by
  intro n
  induction n with
  | zero =>
    intro j hj S ov t h
    refine gl_iload C 0 dL_law_23 rfl ?_
    refine gl_aloadn C 4 0 dL_law_25 rfl rfl ?_
    refine gl_slen C dL_law_26 ?_
    refine gl_bipush C 7 dL_law_27 (by decide) ?_
    refine gl_isub C dL_law_29 ?_
    refine gl_icmp_gt C 3761 dL_law_30 (by decide) (fun _ => ?_) (fun c1 => absurd ?_ c1)
    · exact gl_iconst C 1 dL_law_3761 (by decide) (gl_end C dL_law_3762)
    · rw [Int32.lt_iff_toInt_lt, l_sub7 hL, nI_toInt (by omega)]
      omega
  | succ n ih =>
    intro j hj S ov t h
    refine gl_iload C 0 dL_law_23 rfl ?_
    refine gl_aloadn C 4 0 dL_law_25 rfl rfl ?_
    refine gl_slen C dL_law_26 ?_
    refine gl_bipush C 7 dL_law_27 (by decide) ?_
    refine gl_isub C dL_law_29 ?_
    refine gl_icmp_gt C 3761 dL_law_30 (by decide) (fun _ => ?_) (fun c1 => ?_)
    · exact gl_iconst C 1 dL_law_3761 (by decide) (gl_end C dL_law_3762)
    have hi : 7 * j + 7 ≤ L := by
      rw [Int32.lt_iff_toInt_lt, l_sub7 hL, nI_toInt (by omega)] at c1
      omega
    have hin : vp_in (nI (7 * j) + 1) L ∧ vp_in (nI (7 * j) + 2) L ∧ vp_in (nI (7 * j) + 3) L ∧ vp_in (nI (7 * j) + 4) L ∧ vp_in (nI (7 * j) + 5) L ∧ vp_in (nI (7 * j) + 6) L :=
      ⟨l_in (k := 1) (by omega) hL, l_in (k := 2) (by omega) hL, l_in (k := 3) (by omega) hL, l_in (k := 4) (by omega) hL, l_in (k := 5) (by omega) hL, l_in (k := 6) (by omega) hL⟩
    have kk : ∀ (ov1 : Nat → Int64) (S1 : CS) (t1 : MS), I n S1 t1 → GL p l e s m b below meth c D K E0 mo ao (lw_Z below #[Value.ref b] s) S1 ov1 t1 3755 [(4, .int (nI (7 * j))), (3, .ref ao), (2, .ref mo), (1, .ref o), (0, .ref b)] [] := fun ov1 S1 t1 h1 =>
      gl_iinc C 0 (nI (7 * (j + 1))) [(4, .int (nI (7 * (j + 1)))), (3, .ref ao), (2, .ref mo), (1, .ref o), (0, .ref b)] dL_law_3755 rfl (by
        have e9 : nI (7 * (j + 1)) = nI (7 * j) + nI 7 := by
          rw [show 7 * (j + 1) = 7 * j + 7 by omega]
          exact Int32.ofNat_add (7 * j) 7
        rw [e9]
        rfl) (by decide) rfl (gl_goto C 23 dL_law_3758 (by decide) (ih (j + 1) (by omega) S1 ov1 t1 h1))
    refine gl_aloadn C 4 0 dL_law_33 rfl rfl ?_
    refine gl_iload C 0 dL_law_34 rfl ?_
    refine gl_scr C (i := nI (7 * j)) (by
      have h9 := l_in (a := 7 * j) (k := 0) (L := L) (by omega) hL
      rw [show nI (7 * j) + nI 0 = nI (7 * j) from (Int32.ofNat_add (7 * j) 0).symm] at h9
      exact h9) dL_law_36 ?_
    refine gl_bipush C 63 dL_law_37 (by decide) ?_
    refine gl_iand C dL_law_39 ?_
    generalize (xs (Int32.toNatClampNeg (nI (7 * j))) &&& 63) = v
    by_cases hout : v.toInt < 0 ∨ 53 < v.toInt
    · exact gl_tabD C 3755 dL_law_40 hout (by decide) (kk ov S t (Sm.dn _ _ _ h))
    have h54 : v.toInt = 0 ∨ v.toInt = 1 ∨ v.toInt = 2 ∨ v.toInt = 3 ∨ v.toInt = 4 ∨ v.toInt = 5 ∨ v.toInt = 6 ∨ v.toInt = 7 ∨ v.toInt = 8 ∨ v.toInt = 9 ∨ v.toInt = 10 ∨ v.toInt = 11 ∨ v.toInt = 12 ∨ v.toInt = 13 ∨ v.toInt = 14 ∨ v.toInt = 15 ∨ v.toInt = 16 ∨ v.toInt = 17 ∨ v.toInt = 18 ∨ v.toInt = 19 ∨ v.toInt = 20 ∨ v.toInt = 21 ∨ v.toInt = 22 ∨ v.toInt = 23 ∨ v.toInt = 24 ∨ v.toInt = 25 ∨ v.toInt = 26 ∨ v.toInt = 27 ∨ v.toInt = 28 ∨ v.toInt = 29 ∨ v.toInt = 30 ∨ v.toInt = 31 ∨ v.toInt = 32 ∨ v.toInt = 33 ∨ v.toInt = 34 ∨ v.toInt = 35 ∨ v.toInt = 36 ∨ v.toInt = 37 ∨ v.toInt = 38 ∨ v.toInt = 39 ∨ v.toInt = 40 ∨ v.toInt = 41 ∨ v.toInt = 42 ∨ v.toInt = 43 ∨ v.toInt = 44 ∨ v.toInt = 45 ∨ v.toInt = 46 ∨ v.toInt = 47 ∨ v.toInt = 48 ∨ v.toInt = 49 ∨ v.toInt = 50 ∨ v.toInt = 51 ∨ v.toInt = 52 ∨ v.toInt = 53 := by omega
    rcases h54 with hv | hv | hv | hv | hv | hv | hv | hv | hv | hv | hv | hv | hv | hv | hv | hv | hv | hv | hv | hv | hv | hv | hv | hv | hv | hv | hv | hv | hv | hv | hv | hv | hv | hv | hv | hv | hv | hv | hv | hv | hv | hv | hv | hv | hv | hv | hv | hv | hv | hv | hv | hv | hv | hv
    · exact gl_tab C 272 dL_law_40 (by omega) (by omega) (by rw [hv]; rfl) (by decide) (lc_0 C Sm hin h kk)
    · exact gl_tab C 340 dL_law_40 (by omega) (by omega) (by rw [hv]; rfl) (by decide) (lc_1 C Sm hin h kk)
    · exact gl_tab C 420 dL_law_40 (by omega) (by omega) (by rw [hv]; rfl) (by decide) (lc_2 C Sm hin h kk)
    · exact gl_tab C 488 dL_law_40 (by omega) (by omega) (by rw [hv]; rfl) (by decide) (lc_3 C Sm hin h kk)
    · exact gl_tab C 501 dL_law_40 (by omega) (by omega) (by rw [hv]; rfl) (by decide) (lc_4 C Sm hin h kk)
    · exact gl_tab C 557 dL_law_40 (by omega) (by omega) (by rw [hv]; rfl) (by decide) (lc_5 C Sm hin h kk)
    · exact gl_tab C 613 dL_law_40 (by omega) (by omega) (by rw [hv]; rfl) (by decide) (lc_6 C Sm hin h kk)
    · exact gl_tab C 669 dL_law_40 (by omega) (by omega) (by rw [hv]; rfl) (by decide) (lc_7 C Sm hin h kk)
    · exact gl_tab C 787 dL_law_40 (by omega) (by omega) (by rw [hv]; rfl) (by decide) (lc_8 C Sm hin h kk)
    · exact gl_tab C 867 dL_law_40 (by omega) (by omega) (by rw [hv]; rfl) (by decide) (lc_9 C Sm hin h kk)
    · exact gl_tab C 959 dL_law_40 (by omega) (by omega) (by rw [hv]; rfl) (by decide) (lc_10 C Sm hin h kk)
    · exact gl_tab C 1074 dL_law_40 (by omega) (by omega) (by rw [hv]; rfl) (by decide) (lc_11 C Sm hin h kk)
    · exact gl_tab C 1166 dL_law_40 (by omega) (by omega) (by rw [hv]; rfl) (by decide) (lc_12 C Sm hin h kk)
    · exact gl_tab C 1234 dL_law_40 (by omega) (by omega) (by rw [hv]; rfl) (by decide) (lc_13 C Sm hin h kk)
    · exact gl_tab C 1302 dL_law_40 (by omega) (by omega) (by rw [hv]; rfl) (by decide) (lc_14 C Sm hin h kk)
    · exact gl_tab C 1370 dL_law_40 (by omega) (by omega) (by rw [hv]; rfl) (by decide) (lc_15 C Sm hin h kk)
    · exact gl_tab C 1445 dL_law_40 (by omega) (by omega) (by rw [hv]; rfl) (by decide) (lc_16 C Sm hin h kk)
    · exact gl_tab C 1525 dL_law_40 (by omega) (by omega) (by rw [hv]; rfl) (by decide) (lc_17 C Sm hin h kk)
    · exact gl_tab C 1629 dL_law_40 (by omega) (by omega) (by rw [hv]; rfl) (by decide) (lc_18 C Sm hin h kk)
    · exact gl_tab C 1692 dL_law_40 (by omega) (by omega) (by rw [hv]; rfl) (by decide) (lc_19 C Sm hin h kk)
    · exact gl_tab C 1705 dL_law_40 (by omega) (by omega) (by rw [hv]; rfl) (by decide) (lc_20 C Sm hin h kk)
    · exact gl_tab C 1808 dL_law_40 (by omega) (by omega) (by rw [hv]; rfl) (by decide) (lc_21 C Sm hin h kk)
    · exact gl_tab C 1888 dL_law_40 (by omega) (by omega) (by rw [hv]; rfl) (by decide) (lc_22 C Sm hin h kk)
    · exact gl_tab C 1944 dL_law_40 (by omega) (by omega) (by rw [hv]; rfl) (by decide) (lc_23 C Sm hin h kk)
    · exact gl_tab C 1957 dL_law_40 (by omega) (by omega) (by rw [hv]; rfl) (by decide) (lc_24 C Sm hin h kk)
    · exact gl_tab C 2013 dL_law_40 (by omega) (by omega) (by rw [hv]; rfl) (by decide) (lc_25 C Sm hin h kk)
    · exact gl_tab C 2069 dL_law_40 (by omega) (by omega) (by rw [hv]; rfl) (by decide) (lc_26 C Sm hin h kk)
    · exact gl_tab C 2082 dL_law_40 (by omega) (by omega) (by rw [hv]; rfl) (by decide) (lc_27 C Sm hin h kk)
    · exact gl_tab C 2138 dL_law_40 (by omega) (by omega) (by rw [hv]; rfl) (by decide) (lc_28 C Sm hin h kk)
    · exact gl_tab C 2151 dL_law_40 (by omega) (by omega) (by rw [hv]; rfl) (by decide) (lc_29 C Sm hin h kk)
    · exact gl_tab C 2207 dL_law_40 (by omega) (by omega) (by rw [hv]; rfl) (by decide) (lc_30 C Sm hin h kk)
    · exact gl_tab C 2263 dL_law_40 (by omega) (by omega) (by rw [hv]; rfl) (by decide) (lc_31 C Sm hin h kk)
    · exact gl_tab C 2319 dL_law_40 (by omega) (by omega) (by rw [hv]; rfl) (by decide) (lc_32 C Sm hin h kk)
    · exact gl_tab C 2375 dL_law_40 (by omega) (by omega) (by rw [hv]; rfl) (by decide) (lc_33 C Sm hin h kk)
    · exact gl_tab C 2431 dL_law_40 (by omega) (by omega) (by rw [hv]; rfl) (by decide) (lc_34 C Sm hin h kk)
    · exact gl_tab C 2491 dL_law_40 (by omega) (by omega) (by rw [hv]; rfl) (by decide) (lc_35 C Sm hin h kk)
    · exact gl_tab C 2547 dL_law_40 (by omega) (by omega) (by rw [hv]; rfl) (by decide) (lc_36 C Sm hin h kk)
    · exact gl_tab C 2615 dL_law_40 (by omega) (by omega) (by rw [hv]; rfl) (by decide) (lc_37 C Sm hin h kk)
    · exact gl_tab C 2683 dL_law_40 (by omega) (by omega) (by rw [hv]; rfl) (by decide) (lc_38 C Sm hin h kk)
    · exact gl_tab C 2751 dL_law_40 (by omega) (by omega) (by rw [hv]; rfl) (by decide) (lc_39 C Sm hin h kk)
    · exact gl_tab C 2819 dL_law_40 (by omega) (by omega) (by rw [hv]; rfl) (by decide) (lc_40 C Sm hin h kk)
    · exact gl_tab C 2887 dL_law_40 (by omega) (by omega) (by rw [hv]; rfl) (by decide) (lc_41 C Sm hin h kk)
    · exact gl_tab C 2943 dL_law_40 (by omega) (by omega) (by rw [hv]; rfl) (by decide) (lc_42 C Sm hin h kk)
    · exact gl_tab C 3011 dL_law_40 (by omega) (by omega) (by rw [hv]; rfl) (by decide) (lc_43 C Sm hin h kk)
    · exact gl_tab C 3067 dL_law_40 (by omega) (by omega) (by rw [hv]; rfl) (by decide) (lc_44 C Sm hin h kk)
    · exact gl_tab C 3123 dL_law_40 (by omega) (by omega) (by rw [hv]; rfl) (by decide) (lc_45 C Sm hin h kk)
    · exact gl_tab C 3191 dL_law_40 (by omega) (by omega) (by rw [hv]; rfl) (by decide) (lc_46 C Sm hin h kk)
    · exact gl_tab C 3259 dL_law_40 (by omega) (by omega) (by rw [hv]; rfl) (by decide) (lc_47 C Sm hin h kk)
    · exact gl_tab C 3315 dL_law_40 (by omega) (by omega) (by rw [hv]; rfl) (by decide) (lc_48 C Sm hin h kk)
    · exact gl_tab C 3383 dL_law_40 (by omega) (by omega) (by rw [hv]; rfl) (by decide) (lc_49 C Sm hin h kk)
    · exact gl_tab C 3451 dL_law_40 (by omega) (by omega) (by rw [hv]; rfl) (by decide) (lc_50 C Sm hin h kk)
    · exact gl_tab C 3519 dL_law_40 (by omega) (by omega) (by rw [hv]; rfl) (by decide) (lc_51 C Sm hin h kk)
    · exact gl_tab C 3575 dL_law_40 (by omega) (by omega) (by rw [hv]; rfl) (by decide) (lc_52 C Sm hin h kk)
    · exact gl_tab C 3631 dL_law_40 (by omega) (by omega) (by rw [hv]; rfl) (by decide) (lc_53 C Sm hin h kk)
end LL
