/-! insert: class and model answer alike -/
section IE
variable {lb : Nat × Nat} {o so po : Nat} {I : Nat → CS → MS → Prop}
theorem tk_c {k f : Nat} (hk : k < 6) (hf : f < 3) : d_X0_ticksOf (nI k) (nI f) ∧ v_X0_ticksOf (nI k) (nI f) = tk (nI k) (nI f) := by
  refine ⟨fun _ _ => vp_nI (n := 6) hk (by decide), ?_⟩
  have h1 : k = 0 ∨ k = 1 ∨ k = 2 ∨ k = 3 ∨ k = 4 ∨ k = 5 := by omega
  have h2 : f = 0 ∨ f = 1 ∨ f = 2 := by omega
  rcases h1 with rfl | rfl | rfl | rfl | rfl | rfl <;> rcases h2 with rfl | rfl | rfl <;> decide +kernel
theorem mIn6 {t : MS} (w : zM t) {a1 a2 : Int32} (h1 : ¬ v_isVoice a1 = 0) (h2 : ¬ v_isBar a2 t = 0) : mIn 6 (v_at a1 a2) := by
  obtain ⟨v, hv, ev⟩ := v_ofNN (a := a1) (fun z => h1 (v_out.mp z))
  have hn := w.2.1
  have hout := n_out (a := a2) (n := zN t) (by omega)
  have e : v_isBar a2 t = v_in a2 0 (nI (zN t) - 1) := by
    unfold v_isBar
    rw [show mgI t 0 = nI (zN t) from w.1]
  have hc : ¬ (a2 < 0 ∨ ¬ a2 < nI (zN t)) := fun z => h2 (by rw [e]; exact hout.mp z)
  obtain ⟨i, hi, ei⟩ := n_ofNN (a := a2) (n := zN t) (by omega) (fun z => hc (Or.inl z)) (Classical.byContradiction fun z => hc (Or.inr z))
  rw [ev, ei, at_nI hv]
  exact vp_nI (n := 96) (by omega) (by decide)
theorem si_insert (hI : Im lb o so po I) : Si_insert lb o I := by
  intro n S t ov a1 a2 a3 a4 a5 a6 h
  obtain ⟨hA, hr, hn, hm⟩ := hI n S t h
  have hB := rA_B hA
  have hM := rA_M hA
  have hP := rA_P hA
  have h20 := hP.1
  have hn24 := hM.2.1
  have hso : kdC S so ≠ 0 := by rw [hB.1]; decide
  have ho : kdC S o ≠ 0 := by rw [hA.1]; decide
  have bad1 : ¬ ((¬ ((v_isVoice a1) = 0)) ∧ ((¬ ((v_in a4 0 127) = 0)) ∧ ((¬ ((v_in a5 0 5) = 0)) ∧ ((¬ ((v_in a6 0 2) = 0)) ∧ ((¬ (a5 = 5)) ∨ (¬ (a6 = 1))))))) → ∀ sz ns : Nat, sPI (szC S + 100, nsC S + 2000) (I n) (w_insert a1 a2 a3 a4 a5 a6 t) 1 ov (rsz S sz ns) := by
    intro hc sz ns hz3 hz4
    refine mm_insert0 (fun g1 g2 => mIn6 hM g1 g2) (fun _ => ?_) (fun z => absurd z hc) (Or.inl hc)
    exact ⟨thr_same t 1, fun z => absurd z (by decide), hn sz ns _ hz3 hz4 (ag45 t 1)⟩
  have bad2 : ((¬ ((v_isVoice a1) = 0)) ∧ ((¬ ((v_in a4 0 127) = 0)) ∧ ((¬ ((v_in a5 0 5) = 0)) ∧ ((¬ ((v_in a6 0 2) = 0)) ∧ ((¬ (a5 = 5)) ∨ (¬ (a6 = 1))))))) → (v_isBar a2 t = 0 ∨ v_in a3 0 (mgA t 6 (v_at a1 a2)) = 0) → ∀ sz ns : Nat, sPI (szC S + 100, nsC S + 2000) (I n) (w_insert a1 a2 a3 a4 a5 a6 t) 2 ov (rsz S sz ns) := by
    intro hc hno sz ns hz3 hz4
    refine mm_insert0 (fun g1 g2 => mIn6 hM g1 g2) (fun z => absurd hc z) (fun _ => ?_) (Or.inr hno)
    exact ⟨thr_same t 2, fun z => absurd z (by decide), hn sz ns _ hz3 hz4 (ag45 t 2)⟩
  refine ⟨(szC S + 100, nsC S + 2000), rm_0 hr, a_reqVoice rm_1 (fun v hv ev hz => a_reqRange rm_1 (fun p1 p2 => a_reqRange rm_1 (fun q1 q2 => a_reqRange rm_1 (fun f1 f2 => ⟨fun e => ⟨rm_1, fun sz ns => Or.inl ⟨rfl, bad1 (fun z => z.2.2.2.2.elim (fun z => z e.1) (fun z => z e.2)) sz ns⟩⟩, fun e => ⟨hA.1, a_B hA rm_1 (fun i hi ei hz2 => ?_) (fun hz2 sz ns => Or.inr (Or.inl ⟨rfl, bad2 ⟨hz, p1, q1, f1, ?_⟩ (Or.inl hz2) sz ns⟩))⟩⟩) (fun hc sz ns => Or.inl ⟨rfl, bad1 (fun z => z.2.2.2.1 hc) sz ns⟩)) (fun hc sz ns => Or.inl ⟨rfl, bad1 (fun z => z.2.2.1 hc) sz ns⟩)) (fun hc sz ns => Or.inl ⟨rfl, bad1 (fun z => z.2.1 hc) sz ns⟩)) (fun hc sz ns => Or.inl ⟨rfl, bad1 (fun z => z.1 hc) sz ns⟩)⟩
  case refine_2 =>
    by_cases e9 : a5 = 5
    · exact Or.inr (fun z => e ⟨e9, z⟩)
    · exact Or.inl e9
  have hcan : (¬ ((v_isVoice a1) = 0)) ∧ ((¬ ((v_in a4 0 127) = 0)) ∧ ((¬ ((v_in a5 0 5) = 0)) ∧ ((¬ ((v_in a6 0 2) = 0)) ∧ ((¬ (a5 = 5)) ∨ (¬ (a6 = 1)))))) := by
    refine ⟨hz, p1, q1, f1, ?_⟩
    by_cases e9 : a5 = 5
    · exact Or.inr (fun z => e ⟨e9, z⟩)
    · exact Or.inl e9
  obtain ⟨x, -, x2, ex⟩ := r_in (a := a4) (x := 0) (y := 127) (by decide) (by decide) p2
  obtain ⟨kk, -, kk2, ek⟩ := r_in (a := a5) (x := 0) (y := 5) (by decide) (by decide) q2
  obtain ⟨ff, -, ff2, ef⟩ := r_in (a := a6) (x := 0) (y := 2) (by decide) (by decide) f2
  have hkk : kk < 6 := by omega
  have hff : ff < 3 := by omega
  subst ev
  subst ei
  obtain ⟨r1, r2, r3⟩ := cc_rw hB hM hi hv
  have he16 := (z_r hM hi hv).1
  have e6 : mgA t 6 (v_at (nI v) (nI i)) = nI (zE t v i) := by
    rw [at_nI hv, Ag_A (Ag_rfl t) (f := 6) (by decide) (by omega)]
    exact (z_r hM hi hv).2.1
  have es : v_X8_size (rwL S so v i) S = nI (zE t v i) := congrArg nI (cc_e hB hM hi hv)
  have hout := n_out (a := a3) (n := zE t v i + 1) (by omega)
  rw [nI_pred] at hout
  have hB1 := hB
  rw [oG_so hA.2.1, r2, es, nI_1]
  refine ⟨ne_so hA.2.1, hB.1, r1, r3, r3, i_reqIdx rm_1 (fun hc => ?_) (fun hc sz ns => Or.inr (Or.inl ⟨rfl, bad2 hcan (Or.inr (by rw [e6]; exact hout.mp hc)) sz ns⟩))⟩
  have hc2 : ¬ a3 < 0 ∧ a3 < nI (zE t v i + 1) := ⟨fun z => hc (Or.inl z), Classical.byContradiction fun z => hc (Or.inr z)⟩
  obtain ⟨j, hj1, ej⟩ := n_ofNN (by omega) hc2.1 hc2.2
  have hz3 : ¬ v_in a3 0 (nI (zE t v i)) = 0 := fun z => hc (hout.mpr z)
  subst ej
  have hj : j ≤ zE t v i := by omega
  obtain ⟨l1, l2⟩ := cc_left hB hM hi hv
  obtain ⟨d1, d2⟩ := tk_c hkk hff
  rw [← ek, ← ef] at d1 d2
  obtain ⟨tk1, tk2, tk3⟩ := tk_ok hkk hff
  rw [← ek, ← ef] at tk1 tk2 tk3
  obtain ⟨wr1, wr2⟩ := wr_c hA hv (a := a4) (x := nI v)
  have hsL := z_sL hM hi hv (Nat.le_refl (zE t v i))
  have hL := z_len hM hi
  rw [oG_so hA.2.1, l2, d2, tk1, wr2, es]
  refine ⟨ne_so hA.2.1, hB.1, l1, d1, fun x18 hx18 => ⟨r3, fun _ _ => wr1, fun hno => ⟨rm_1, fun sz ns => ?_⟩, fun hyes => ?_⟩⟩
  · have hfit : ¬ insFit t v i a4 a5 a6 := by
      rintro ⟨g1, g2, g3⟩
      rcases hno with hno | hno | hno
      · exact absurd ((nI_leI (a := 16) (by decide) (by omega)).mp hno) (by omega)
      · rw [hx18, pk_sub (by omega)] at hno
        exact nI_pos (by omega) hno
      · exact g3 hno
    refine Or.inr (Or.inr ⟨rfl, fun hz4 hz5 => mm_insert hM h20 hP.2.1 hv hi hj hcan hkk hff ek ef ex x2 hz2 hz3 (fun _ => ?_) (fun z => absurd z hfit)⟩)
    exact ⟨thr_same t 3, fun z => absurd z (by decide), hn sz ns _ hz4 hz5 (ag45 t 3)⟩
  · have hfit : insFit t v i a4 a5 a6 := by
      refine ⟨Classical.byContradiction fun z => hyes (Or.inl (nI_le (a := 16) (by omega) (by omega))), ?_, fun z => hyes (Or.inr (Or.inr z))⟩
      refine Classical.byContradiction fun z => hyes (Or.inr (Or.inl ?_))
      rw [hx18]
      exact pk_sneg (by omega) (by omega)
    have hs := hfit.2.1
    refine ⟨⟨Nat.add_le_add_left (by decide) _, Nat.add_le_add_left (by decide) _⟩, fun h0 t24 ht24 => ?_⟩
    subst ht24
    obtain ⟨e1, he1⟩ : ∃ e1, e1 = szC S := ⟨_, rfl⟩
    rw [← he1]
    have h0e : kdC S e1 = 0 := by rw [he1]; exact h0
    have kne : kdC (newO S 3) e1 = 3 := by
      rw [he1]
      exact va_up_self (kdC S) _ _
    refine ⟨kne, fun t2 ht2 t3 ht3 => ⟨d1, fun t5 ht5 t6 ht6 => ?_⟩⟩
    subst ht2
    subst ht3
    subst ht5
    subst ht6
    obtain ⟨S1, hS1⟩ : ∃ S1, S1 = usI (usI (usI (usI (newO S 3) 50 e1 a4) 49 e1 a6) 48 e1 (v_X0_ticksOf a5 a6)) 52 e1 (-1) := ⟨_, rfl⟩
    rw [← hS1]
    have hk1 : ∀ q, kdC S q ≠ 0 → kdC S1 q = kdC S q := fun q hq => by rw [hS1]; exact kd_new h0 hq
    have hke : kdC S1 e1 = 3 := by rw [hS1]; exact kne
    have hL1 : fL S1 = fL S := by rw [hS1]; rfl
    have hC1 : fC S1 = fC S := by rw [hS1]; rfl
    have hz1 : szC S1 = szC S + 1 := by rw [hS1]; rfl
    have hn1 : nsC S1 = nsC S + 6 := by rw [hS1]; rfl
    have hR := cc_row hB hM hi hv
    have hc5 : fC S1 176 (rwL S so v i) ≤ 500000 := by rw [hC1]; exact hR.2.2.2.2.2.2.1
    have hlen : (fL S1 176 (rwL S so v i)).length = zE t v i := by rw [hL1]; exact cc_e hB hM hi hv
    obtain ⟨p1', p2', p3'⟩ := cap_le (S := S1) (f := 176) (o := rwL S so v i)
    rw [hlen] at p2' p3'
    have krow : kdC S (rwL S so v i) ≠ 0 := by rw [r3]; decide
    have hmem : ∀ y, y ∈ fL S1 176 (rwL S so v i) → kdC S1 y = cEK 176 := fun y hy => by
      rw [hL1] at hy
      obtain ⟨k, k1, k2⟩ := gl_mem hy
      have k1' : k < zE t v i := by rw [← cc_e hB hM hi hv]; exact k1
      have k3 := (cc_ev hB hM hi hv k1').2.2.1
      have k4 : evL S so v i k = y := k2
      rw [k4] at k3
      rw [hk1 y (by rw [k3]; decide), k3]
      rfl
    have gE1 : ∀ P : Nat → Prop, Eqf P S S1 := fun P => by
      rw [hS1]
      exact Eqf_usI (Eqf_usI (Eqf_usI (Eqf_usI (Eqf_newO Eqf_rfl h0) (Or.inr h0e)) (Or.inr h0e)) (Or.inr h0e)) (Or.inr h0e)
    have ecj : (nI j).toNatClampNeg = j := nI_clamp (by omega)
    unfold w_X8_putIn
    rw [hlen, ecj]
    refine ⟨(hk1 _ krow).trans r3, by omega, vp_nI (by omega) (by omega), ⟨hc5, hmem⟩, hke, ⟨?_, ?_⟩, fun sz7 ns7 z1 z2 z3 t8 ht8 t9 ht9 => ?_⟩
    · show szC S1 + lcA S1 176 (rwL S so v i) ≤ e1 + 100
      omega
    · show nsC S1 + lcS S1 176 (rwL S so v i) ≤ nsC S + 2000
      omega
    have hs9 : fR t9 224 o = some so := by
      rw [ht9, ht8]
      exact (((gE1 (fun _ => True) o ho).2.2 224 trivial).2.2.1).trans hA.2.1
    have hk9 : kdC t9 so = 12 := by
      rw [ht9, ht8]
      exact (hk1 so hso).trans hB.1
    refine i_ed hs9 hk9 ?_
    intro hzz1 hzz2
    refine mm_insert hM h20 hP.2.1 hv hi hj hcan hkk hff ek ef ex x2 hz2 hz3 (fun z => absurd hfit z) (fun _ t' hIns hthr => ?_)
    have ex18 : x18 = nI (zL t i - (zS t v i (zE t v i) + aN (tk a5 a6))) := by
      rw [hx18, pk_sub (by omega), Nat.sub_sub]
    have gE : ∀ P : Nat → Prop, ¬ P 176 → ¬ P 177 → ¬ P 199 → Eqf P S (usI t9 199 so (fI t9 199 so + 1)) := fun P g1 g2 g3 => by
      rw [ht9, ht8]
      exact Eqf_usI (Eqf_usI (Eqf_usL (gE1 P) (Or.inl g1)) (Or.inl g2)) (Or.inl g3)
    have old1 : ∀ f q, kdC S q ≠ 0 → fI S1 f q = fI S f q ∧ fL S1 f q = fL S f q ∧ fC S1 f q = fC S f q := fun f q hq => by
      have g := (gE1 (fun _ => True) q hq).2.2 f trivial
      exact ⟨g.1, g.2.2.2.2.1, g.2.2.2.2.2⟩
    have new1 : fI S1 50 e1 = a4 ∧ fI S1 49 e1 = a6 ∧ fI S1 48 e1 = tk a5 a6 ∧ fI S1 52 e1 = -1 ∧ fI S1 51 e1 = 0 := by
      rw [hS1]
      refine ⟨?_, ?_, ?_, ?_, ?_⟩
      · rw [fI_ne (by decide), fI_ne (by decide), fI_ne (by decide), fI_at, if_pos rfl]
      · rw [fI_ne (by decide), fI_ne (by decide), fI_at, if_pos rfl]
      · rw [fI_ne (by decide), fI_at, if_pos rfl]
        exact d2
      · rw [fI_at, if_pos rfl]
      · rw [fI_ne (by decide), fI_ne (by decide), fI_ne (by decide), fI_ne (by decide)]
        show (if e1 = szC S then 0 else fI S 51 e1) = 0
        rw [if_pos he1]
    have new9 : ∀ f, f ≠ 177 → f ≠ 199 → fI (usI t9 199 so (fI t9 199 so + 1)) f e1 = fI S1 f e1 := fun f g1 g2 => by
      rw [fI_ne g2, ht9, fI_ne g1, ht8]
      rfl
    refine ⟨hthr, fun _ => ?_, hm _ _ ?_ ?_ (gE _ (by unfold fKp; decide) (by unfold fKp; decide) (by unfold fKp; decide)) ?_ ?_⟩
    · rw [← ex18]
      rfl
    · refine rA_ins hA hv hi hj hfit.1 hkk hff ek ef ex x2 hs rfl (gE _ (fun z => z.1 rfl) (fun z => z.2.1 rfl) (fun z => z.2.2 rfl)) (fun q hq => ?_) (fun q hq g1 g2 => ?_) (fun q hq => ?_) h0e ?_ ((new9 50 (by decide) (by decide)).trans new1.1) ((new9 49 (by decide) (by decide)).trans new1.2.1) ((new9 48 (by decide) (by decide)).trans new1.2.2.1) ((new9 52 (by decide) (by decide)).trans new1.2.2.2.1) ((new9 51 (by decide) (by decide)).trans new1.2.2.2.2) hIns
      · rw [ht9, ht8]
        show up2 (fL S1) 176 (rwL S so v i) (l_ins (fL S1 176 (rwL S so v i)) j e1) 176 q = _
        by_cases e9 : q = rwL S so v i
        · rw [e9, up2_is, if_pos rfl, hL1]
        · rw [up2_no (fun z => e9 z.2), if_neg e9, hL1]
      · rw [ht9, ht8]
        show up2 (fC S1) 176 (rwL S so v i) _ 176 q ≤ 500000
        by_cases e9 : q = rwL S so v i
        · rw [e9, up2_is]
          exact p3' hc5 (by omega)
        · rw [up2_no (fun z => e9 z.2), hC1]
          exact g1
      · rw [fI_ne (by decide), ht9, fI_at, ht8]
        show (if q = rwL S so v i then fI S1 177 (rwL S so v i) + fI S1 48 e1 else fI S1 177 q) = _
        rw [new1.2.2.1, (old1 177 q hq).1, (old1 177 _ krow).1]
      · show kdC t9 e1 = 3
        rw [ht9, ht8]
        exact hke
    · rw [ed_at, ht9, fI_ne (by decide), ht8, s_usL_fI, (old1 199 so hso).1]
    · rw [← he1]
      exact hzz1
    · exact hzz2
end IE
