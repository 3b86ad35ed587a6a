/-! addPhrase -/
section MP
variable {lb : Nat × Nat} {o so po : Nat} {I : Nat → CS → MS → Prop}
theorem mm_addPh {t : MS} {v np : Nat} {a2 a3 a4 a5 : Int32} {Q : Int32 → MS → Prop} (hnp : np ≤ 20) (h14 : t.1 14 = nI np) (hz : ¬ v_isVoice (nI v) = 0) (hd1 : d_isEvent (nI v) a2 a3 t) (he1 : ¬ v_isEvent (nI v) a2 a3 t = 0) (hd2 : d_isEvent (nI v) a4 a5 t)
    (h2 : v_isEvent (nI v) a4 a5 t = 0 → Q 0 (msI t 45 2))
    (h3 : ¬ v_isEvent (nI v) a4 a5 t = 0 → ((if (a2 < a4) ∨ ((a4 = a2) ∧ (¬ (a5 ≤ a3))) then (1 : Int32) else 0) = 0 ∨ 20 ≤ np) → Q 0 (msI t 45 3))
    (h0 : ¬ v_isEvent (nI v) a4 a5 t = 0 → ¬ ((if (a2 < a4) ∨ ((a4 = a2) ∧ (¬ (a5 ≤ a3))) then (1 : Int32) else 0) = 0 ∨ 20 ≤ np) → Q (nI np) (msI (msA (msA (msA (msA (msA (msI t 45 0) 15 (nI np) (nI v)) 16 (nI np) a2) 17 (nI np) a3) 18 (nI np) a4) 19 (nI np) a5) 14 (nI (np + 1)))) : w_addPhrase (nI v) a2 a3 a4 a5 t Q := by
  have e0 : mgI t 14 = nI np := h14
  intro x1 hx1
  subst hx1
  refine ⟨fun _ => hd1, fun _ _ => hd2, fun x2 hx2 x5 hx5 x6 hx6 => ?_⟩
  rw [e0] at hx6
  have e20 : (20 : Int32) ≤ nI np ↔ 20 ≤ np := nI_leI (a := 20) (by decide) (by omega)
  by_cases he2 : v_isEvent (nI v) a4 a5 t = 0
  · rw [if_neg (fun z => z.2.2 he2)] at hx2
    exact i_go2 hz hx2 ⟨fun _ => h2 he2, fun h9 => absurd rfl h9⟩
  · have hx2' : ¬ x2 = 0 := by rw [hx2, if_pos ⟨hz, he1, he2⟩]; exact one_ne
    by_cases hc : (if (a2 < a4) ∨ ((a4 = a2) ∧ (¬ (a5 ≤ a3))) then (1 : Int32) else 0) = 0 ∨ 20 ≤ np
    · refine i_go3 hz hx2' ?_ ⟨fun _ => h3 he2 hc, fun h9 => absurd rfl h9⟩
      rw [hx6, if_neg]
      rintro ⟨z1, z2⟩
      rcases hc with hc | hc
      · exact z1 (hx5.trans hc)
      · exact z2 (e20.mpr hc)
    · have hx6' : ¬ x6 = 0 := by
        rw [hx6, if_pos ⟨fun z => hc (Or.inl (hx5.symm.trans z)), fun z => hc (Or.inr (e20.mp z))⟩]
        exact one_ne
      have hin : mIn 15 (nI np) := vp_nI (n := 20) (by omega) (by decide)
      have f0 : mgI (msI t 45 0) 14 = nI np := (mI_ne (t := t) (f := 45) (v := 0) (k := 14) (by decide)).trans h14
      refine i_go0 hz hx2' hx6' ⟨fun h9 => absurd h9 one_ne, fun _ => ?_⟩
      rw [f0]
      refine ⟨hin, fun t9 ht9 => ?_⟩
      have f9 : mgI t9 14 = nI np := by rw [ht9]; exact f0
      rw [f9]
      refine ⟨hin, fun t11 ht11 => ?_⟩
      have f11 : mgI t11 14 = nI np := by rw [ht11]; exact f9
      rw [f11]
      refine ⟨hin, fun t13 ht13 => ?_⟩
      have f13 : mgI t13 14 = nI np := by rw [ht13]; exact f11
      rw [f13]
      refine ⟨hin, fun t15 ht15 => ?_⟩
      have f15 : mgI t15 14 = nI np := by rw [ht15]; exact f13
      rw [f15]
      refine ⟨hin, fun t17 ht17 t18 ht18 => ?_⟩
      have f17 : mgI t17 14 = nI np := by rw [ht17]; exact f15
      rw [f17, nI_1] at ht18
      have f18 : mgI t18 14 = nI (np + 1) := by rw [ht18]; exact mI_at
      rw [f18, nI_pred]
      subst ht9
      subst ht11
      subst ht13
      subst ht15
      subst ht17
      subst ht18
      exact h0 he2 hc
theorem si_addPhrase (hI : Im lb o so po I) : Si_addPhrase lb o I := by
  intro n S t ov a1 a2 a3 a4 a5 h
  obtain ⟨hA, hr, hn, hm⟩ := hI n S t h
  have hB := rA_B hA
  have hM := rA_M hA
  have hP := rA_P hA
  have h20 := hP.1
  have hn24 := hM.2.1
  have hso : kdC S so ≠ 0 := by rw [hB.1]; decide
  have ho : kdC S o ≠ 0 := by rw [hA.1]; decide
  refine ⟨(szC S + 100, nsC S + 2000), rm_0 hr, hA.1, a_Ev hA rm_1 (fun v i j hv hi hj ev ei ej hz hd hz2 => a_Ev hA rm_1 (fun v2 i2 j2 hv2 hi2 hj2 ev2 ei2 ej2 hzz hd2 hz3 => ?_) (fun hzz sz ns => ?_) (fun hzz hd2 hz3 sz ns => ?_)) (fun hz sz ns => ?_) (fun hz hd hz2 sz ns => ?_)⟩
  · subst ev
    have e12 : v2 = v := ((nI_eq (by omega) (by omega)).mp ev2).symm
    subst e12
    have elen : nI (fL S 193 so).length = nI (npS S so) := rfl
    have elt : nI (npS S so) < 20 ↔ npS S so < 20 := nI_ltI (b := 20) (by omega) (by decide)
    intro x4 hx4
    rw [oG_so hA.2.1, elen, elt]
    refine ⟨fun _ => ne_so hA.2.1, fun _ => hB.1, fun hc => ⟨rm_1, fun sz ns => ?_⟩, fun hc => ?_⟩
    · refine Or.inr (Or.inr ⟨rfl, fun hz4 hz5 => ?_⟩)
      refine mm_addPh h20 hP.2.1 hz hd hz2 hd2 (fun z => absurd z hz3) (fun _ _ => ?_) (fun _ z => ?_)
      · exact ⟨thr_same t 3, fun z => absurd z (by decide), hn sz ns _ hz4 hz5 (ag45 t 3)⟩
      · refine absurd ?_ z
        rcases hc with hc | hc
        · exact Or.inl (hx4.symm.trans hc)
        · exact Or.inr (by omega)
    · have hnp : npS S so < 20 := Classical.byContradiction fun z => hc (Or.inr z)
      refine ⟨ne_so hA.2.1, hB.1, ⟨Nat.add_le_add_left (by decide) _, Nat.add_le_add_left (by decide) _⟩, fun h0 t12 ht12 => ?_⟩
      subst ht12
      obtain ⟨e, he⟩ : ∃ e, e = szC S := ⟨_, rfl⟩
      rw [← he]
      have h0e : kdC S e = 0 := by rw [he]; exact h0
      have kne : kdC (newO S 8) e = 8 := by
        rw [he]
        exact va_up_self (kdC S) _ _
      refine ⟨kne, fun t2 ht2 t3 ht3 t4 ht4 t5 ht5 t6 ht6 => ?_⟩
      subst ht2
      subst ht3
      subst ht4
      subst ht5
      subst ht6
      obtain ⟨S1, hS1⟩ : ∃ S1, S1 = usR (usI (usR (usI (usI (newO S 8) 128 e (nI v2)) 129 e a2) 131 e (some (evL S so v2 i j))) 130 e a4) 132 e (some (evL S so v2 i2 j2)) := ⟨_, rfl⟩
      rw [← hS1]
      have hk1 : ∀ q, kdC S q ≠ 0 → kdC S1 q = kdC S q := fun q hq => by rw [hS1]; exact kd_new h0 hq
      have hke : kdC S1 e = 8 := by rw [hS1]; exact kne
      have hL1 : fL S1 = fL S := by rw [hS1]; rfl
      have hC1 : fC S1 = fC S := by rw [hS1]; rfl
      have hz1 : szC S1 = szC S + 1 := by rw [hS1]; rfl
      have hn1 : nsC S1 = nsC S + 6 := by rw [hS1]; rfl
      have hc5 : fC S1 193 so ≤ 500000 := by rw [hC1]; exact hP.2.2.1
      have hlen : (fL S1 193 so).length = npS S so := by rw [hL1]; rfl
      obtain ⟨p1, p2, p3⟩ := cap_le (S := S1) (f := 193) (o := so)
      rw [hlen] at p2 p3
      have hmem : ∀ y, y ∈ fL S1 193 so → kdC S1 y = cEK 193 := fun y hy => by
        rw [hL1] at hy
        obtain ⟨k, k1, k2⟩ := gl_mem hy
        have k3 := (hP.2.2.2.1 k k1).1
        have k4 : phL S so k = y := k2
        rw [k4] at k3
        rw [hk1 y (by rw [k3]; decide), k3]
        rfl
      have gE1 : ∀ P : Nat → Prop, Eqf P S S1 := fun P => by
        rw [hS1]
        exact Eqf_usR (Eqf_usI (Eqf_usR (Eqf_usI (Eqf_usI (Eqf_newO Eqf_rfl h0) (Or.inr h0e)) (Or.inr h0e)) (Or.inr h0e)) (Or.inr h0e)) (Or.inr h0e)
      refine ⟨⟨hc5, hmem⟩, hke, ⟨?_, ?_⟩, fun sz17 ns17 z1 z2 z3 t18 ht18 => ?_⟩
      · show szC S1 + lcA S1 193 so ≤ e + 100
        omega
      · show nsC S1 + lcS S1 193 so ≤ nsC S + 2000
        omega
      have hs18 : fR t18 224 o = some so := by
        rw [ht18]
        exact (((gE1 (fun _ => True) o ho).2.2 224 trivial).2.2.1).trans hA.2.1
      have hk18 : kdC t18 so = 12 := by
        rw [ht18]
        exact (hk1 so hso).trans hB.1
      refine i_ed hs18 hk18 ?_
      have hs21 : fR (usI t18 199 so (fI t18 199 so + 1)) 224 o = some so := hs18
      rw [oG_so hs21]
      refine ⟨ne_so hs21, hk18, ?_⟩
      have hL18 : fL t18 193 so = fL S 193 so ++ [e] := by
        rw [ht18]
        show up2 (fL S1) 193 so _ 193 so = _
        rw [up2_is, hL1]
      have hl21 : (fL (usI t18 199 so (fI t18 199 so + 1)) 193 so).length = npS S so + 1 := by
        show (fL t18 193 so).length = _
        rw [hL18, List.length_append]
        rfl
      rw [hl21, nI_pred]
      intro hzz1 hzz2
      refine mm_addPh h20 hP.2.1 hz hd hz2 hd2 (fun z => absurd z hz3) (fun _ z => ?_) (fun _ _ => ?_)
      · refine absurd ?_ hc
        rcases z with z | z
        · exact Or.inl (hx4.trans z)
        · exact Or.inr (by omega)
      obtain ⟨A', hA'⟩ : ∃ A', A' = msI (msA (msA (msA (msA (msA (msI t 45 0) 15 (nI (npS S so)) (nI v2)) 16 (nI (npS S so)) a2) 17 (nI (npS S so)) a3) 18 (nI (npS S so)) a4) 19 (nI (npS S so)) a5) 14 (nI (npS S so + 1)) := ⟨_, rfl⟩
      rw [← hA']
      have h31 : npS S so < 2147483648 := by omega
      have h1' : ∀ k, k ≠ 45 → k ≠ 14 → A'.1 k = t.1 k := fun k hk hk2 => by
        rw [hA', mI_ne hk2]
        exact mI_ne hk
      have h14' : A'.1 14 = nI (npS S so + 1) := by rw [hA', mI_at]
      have h2' : ∀ k, k ≠ 15 → k ≠ 16 → k ≠ 17 → k ≠ 18 → k ≠ 19 → A'.2 k = t.2 k := fun k k1 k2 k3 k4 k5 => by
        rw [hA']
        show (msA (msA (msA (msA (msA (msI t 45 0) 15 (nI (npS S so)) (nI v2)) 16 (nI (npS S so)) a2) 17 (nI (npS S so)) a3) 18 (nI (npS S so)) a4) 19 (nI (npS S so)) a5).2 k = _
        rw [mA_ne k5, mA_ne k4, mA_ne k3, mA_ne k2, mA_ne k1]
        rfl
      have h15' : ∀ k, A'.2 15 k = if k = npS S so then nI v2 else t.2 15 k := fun k => by
        rw [hA']
        show (msA (msA (msA (msA (msA (msI t 45 0) 15 (nI (npS S so)) (nI v2)) 16 (nI (npS S so)) a2) 17 (nI (npS S so)) a3) 18 (nI (npS S so)) a4) 19 (nI (npS S so)) a5).2 15 k = _
        rw [mA_ne (f' := 15) (by decide), mA_ne (f' := 15) (by decide), mA_ne (f' := 15) (by decide), mA_ne (f' := 15) (by decide), mA_at h31]
        rfl
      have h16' : ∀ k, A'.2 16 k = if k = npS S so then a2 else t.2 16 k := fun k => by
        rw [hA']
        show (msA (msA (msA (msA (msA (msI t 45 0) 15 (nI (npS S so)) (nI v2)) 16 (nI (npS S so)) a2) 17 (nI (npS S so)) a3) 18 (nI (npS S so)) a4) 19 (nI (npS S so)) a5).2 16 k = _
        rw [mA_ne (f' := 16) (by decide), mA_ne (f' := 16) (by decide), mA_ne (f' := 16) (by decide), mA_at h31, mA_ne (f' := 16) (by decide)]
        rfl
      have h17' : ∀ k, A'.2 17 k = if k = npS S so then a3 else t.2 17 k := fun k => by
        rw [hA']
        show (msA (msA (msA (msA (msA (msI t 45 0) 15 (nI (npS S so)) (nI v2)) 16 (nI (npS S so)) a2) 17 (nI (npS S so)) a3) 18 (nI (npS S so)) a4) 19 (nI (npS S so)) a5).2 17 k = _
        rw [mA_ne (f' := 17) (by decide), mA_ne (f' := 17) (by decide), mA_at h31, mA_ne (f' := 17) (by decide), mA_ne (f' := 17) (by decide)]
        rfl
      have h18' : ∀ k, A'.2 18 k = if k = npS S so then a4 else t.2 18 k := fun k => by
        rw [hA']
        show (msA (msA (msA (msA (msA (msI t 45 0) 15 (nI (npS S so)) (nI v2)) 16 (nI (npS S so)) a2) 17 (nI (npS S so)) a3) 18 (nI (npS S so)) a4) 19 (nI (npS S so)) a5).2 18 k = _
        rw [mA_ne (f' := 18) (by decide), mA_at h31, mA_ne (f' := 18) (by decide), mA_ne (f' := 18) (by decide), mA_ne (f' := 18) (by decide)]
        rfl
      have h19' : ∀ k, A'.2 19 k = if k = npS S so then a5 else t.2 19 k := fun k => by
        rw [hA']
        show (msA (msA (msA (msA (msA (msI t 45 0) 15 (nI (npS S so)) (nI v2)) 16 (nI (npS S so)) a2) 17 (nI (npS S so)) a3) 18 (nI (npS S so)) a4) 19 (nI (npS S so)) a5).2 19 k = _
        rw [mA_at h31, mA_ne (f' := 19) (by decide), mA_ne (f' := 19) (by decide), mA_ne (f' := 19) (by decide), mA_ne (f' := 19) (by decide)]
        rfl
      have eN : zN A' = zN t := by unfold zN; rw [h1' 0 (by decide) (by decide)]
      have eE : zE A' = zE t := by funext v i; unfold zE; rw [h2' 6 (by decide) (by decide) (by decide) (by decide) (by decide)]
      have hthr : v_thrown A' = 0 := by
        rw [hA']
        show (msI (msA (msA (msA (msA (msA (msI t 45 0) 15 (nI (npS S so)) (nI v2)) 16 (nI (npS S so)) a2) 17 (nI (npS S so)) a3) 18 (nI (npS S so)) a4) 19 (nI (npS S so)) a5) 14 (nI (npS S so + 1))).1 45 = 0
        rw [mI_ne (by decide)]
        exact thr_same t 0
      have gE : ∀ P : Nat → Prop, ¬ P 193 → ¬ P 199 → Eqf P S (usI t18 199 so (fI t18 199 so + 1)) := fun P g1 g2 => by
        rw [ht18]
        exact Eqf_usI (Eqf_usL (gE1 P) (Or.inl g1)) (Or.inl g2)
      refine ⟨hthr, fun _ => rfl, hm _ _ ?_ ?_ (gE _ (by unfold fKp; decide) (by unfold fKp; decide)) ?_ ?_⟩
      · refine rA_oth hA (gE _ (by unfold fB0; decide) (by unfold fB0; decide)) (gE _ (by decide) (by decide)) (h1' 0 (by decide) (by decide)) (fun k hk => h2' k (by omega) (by omega) (by omega) (by omega) (by omega)) (congrFun (h2' 26 (by decide) (by decide) (by decide) (by decide) (by decide)) 0) ?_ ?_ ?_
        · have gR : Eqf (fun f => f / 16 = 8) S (usI t18 199 so (fI t18 199 so + 1)) := gE _ (by decide) (by decide)
          have gB : Eqf fB0 S (usI t18 199 so (fI t18 199 so + 1)) := gE _ (by unfold fB0; decide) (by unfold fB0; decide)
          have hr' : ∀ k, phL (usI t18 199 so (fI t18 199 so + 1)) so k = if k < npS S so then phL S so k else if k = npS S so then e else 0 := fun k => by
            unfold phL
            show ((fL t18 193 so)[k]?).getD 0 = _
            rw [hL18, gl_app]
            rfl
          have hnp' : npS (usI t18 199 so (fI t18 199 so + 1)) so = npS S so + 1 := hl21
          have fnew : fI (usI t18 199 so (fI t18 199 so + 1)) 128 e = nI v2 ∧ fI (usI t18 199 so (fI t18 199 so + 1)) 129 e = a2 ∧ fI (usI t18 199 so (fI t18 199 so + 1)) 130 e = a4 ∧ fI (usI t18 199 so (fI t18 199 so + 1)) 133 e = 0 := by
            refine ⟨?_, ?_, ?_, ?_⟩
            · rw [fI_ne (by decide), ht18, s_usL_fI, hS1, s_usR_fI, fI_ne (by decide), s_usR_fI, fI_ne (by decide), fI_at, if_pos rfl]
            · rw [fI_ne (by decide), ht18, s_usL_fI, hS1, s_usR_fI, fI_ne (by decide), s_usR_fI, fI_at, if_pos rfl]
            · rw [fI_ne (by decide), ht18, s_usL_fI, hS1, s_usR_fI, fI_at, if_pos rfl]
            · rw [fI_ne (by decide), ht18, s_usL_fI, hS1, s_usR_fI, fI_ne (by decide), s_usR_fI, fI_ne (by decide), fI_ne (by decide)]
              show (if e = szC S then 0 else fI S 133 e) = 0
              rw [if_pos he]
          have rnew : fR (usI t18 199 so (fI t18 199 so + 1)) 131 e = some (evL S so v2 i j) ∧ fR (usI t18 199 so (fI t18 199 so + 1)) 132 e = some (evL S so v2 i2 j2) := by
            rw [s_usI_fR, ht18, s_usL_fR, hS1, s_usR_fR, s_usI_fR, s_usR_fR]
            refine ⟨?_, up2_is⟩
            rw [up2_no (fun z => absurd z.1 (by decide)), up2_is]
          have hke2 : kdC (usI t18 199 so (fI t18 199 so + 1)) e = 8 := by
            rw [ht18]
            exact hke
          obtain ⟨b1, b2, b3, b4, b5, b6⟩ := hP
          have kph : ∀ k, k < npS S so → kdC S (phL S so k) ≠ 0 := fun k hk => by rw [(b4 k hk).1]; decide
          have neq : ∀ k, k < npS S so → phL S so k ≠ e := fun k hk z => kph k hk (by rw [z]; exact h0e)
          refine ⟨by rw [hnp']; omega, by rw [hnp']; exact h14', ?_, ?_, ?_, ?_⟩
          · show fC t18 193 so ≤ 500000
            rw [ht18]
            show up2 (fC S1) 193 so _ 193 so ≤ 500000
            rw [up2_is]
            exact p3 hc5 (by omega)
          · intro k hk
            rw [hnp'] at hk
            by_cases e9 : k < npS S so
            · obtain ⟨c1, c2, c3, c4, c5, c6, c7, c8, c9⟩ := b4 k e9
              obtain ⟨w1, -, w2⟩ := gR (phL S so k) (kph k e9)
              have kne' : ¬ k = npS S so := by omega
              unfold rPk rPe
              rw [hr', if_pos e9, (w2 131 (by decide)).2.2.1, (w2 132 (by decide)).2.2.1, h15', if_neg kne', h16', if_neg kne', h17', if_neg kne', h18', if_neg kne', h19', if_neg kne', h2' 20 (by decide) (by decide) (by decide) (by decide) (by decide), eN, eE]
              refine ⟨w1.trans c1, (w2 128 (by decide)).1.trans c2, (w2 129 (by decide)).1.trans c3, (w2 130 (by decide)).1.trans c4, (w2 133 (by decide)).1.trans c5, c6, c7, c8, fun z => ?_⟩
              obtain ⟨v, i, j, i2, j2, d1, d2, d3, d4, d5, d6, d7, d8, d9, d10, d11, d12⟩ := c9 z
              exact ⟨v, i, j, i2, j2, d1, d2, d3, d4, d5, d6, d7, d8, d9, d10, by rw [evL_c hB hM gB d2 d1]; exact d11, by rw [evL_c hB hM gB d4 d1]; exact d12⟩
            · have kne' : k = npS S so := by omega
              subst kne'
              have z20 : t.2 20 (npS S so) = 0 := b6 _ (Nat.le_refl _) hnp
              unfold rPk rPe
              rw [hr', if_neg (Nat.lt_irrefl _), if_pos rfl, rnew.1, rnew.2, h15', if_pos rfl, h16', if_pos rfl, h17', if_pos rfl, h18', if_pos rfl, h19', if_pos rfl, h2' 20 (by decide) (by decide) (by decide) (by decide) (by decide), eN, eE]
              refine ⟨hke2, fnew.1, fnew.2.1, fnew.2.2.1, fnew.2.2.2.trans z20.symm, by rw [z20]; exact Or.inl rfl, fun z => (by cases z), fun z => (by cases z), fun _ => ?_⟩
              exact ⟨v2, i, j, i2, j2, hv, hi, hj, hi2, hj2, rfl, ei, ej, ei2, ej2, by rw [evL_c hB hM gB hi hv], by rw [evL_c hB hM gB hi2 hv]⟩
          · intro k k2 hk hk2 z
            rw [hnp'] at hk hk2
            rw [hr', hr'] at z
            by_cases e9 : k < npS S so
            · rw [if_pos e9] at z
              by_cases e8 : k2 < npS S so
              · rw [if_pos e8] at z
                exact b5 k k2 e9 e8 z
              · rw [if_neg e8, if_pos (by omega)] at z
                exact absurd z (neq k e9)
            · rw [if_neg e9, if_pos (by omega)] at z
              by_cases e8 : k2 < npS S so
              · rw [if_pos e8] at z
                exact absurd z.symm (neq k2 e8)
              · omega
          · intro k hk hk2
            rw [hnp'] at hk
            rw [h2' 20 (by decide) (by decide) (by decide) (by decide) (by decide)]
            exact b6 k (by omega) hk2
        · exact rT_c hso (rA_T hA) (gE _ (by unfold fT0; decide) (by unfold fT0; decide)) (h1' 0 (by decide) (by decide)) (h2' 4 (by decide) (by decide) (by decide) (by decide) (by decide)) (h2' 5 (by decide) (by decide) (by decide) (by decide) (by decide))
        · exact rS_c hso (rA_S hA) (gE _ (by unfold fS0; decide) (by unfold fS0; decide)) (h2' 13 (by decide) (by decide) (by decide) (by decide) (by decide)) (h1' 21 (by decide) (by decide)) (h1' 22 (by decide) (by decide)) (h1' 23 (by decide) (by decide))
      · rw [ed_at, ht18, s_usL_fI, hS1, s_usR_fI, fI_ne (by decide), s_usR_fI, fI_ne (by decide), fI_ne (by decide), fI_new h0 hso]
      · rw [← he]
        exact hzz1
      · exact hzz2
  · subst ev
    exact absurd hzz hz
  · subst ev
    refine Or.inr (Or.inl ⟨rfl, fun hz4 hz5 => mm_addPh h20 hP.2.1 hz hd hz2 hd2 (fun _ => ?_) (fun z => absurd hz3 z) (fun z => absurd hz3 z)⟩)
    exact ⟨thr_same t 2, fun z => absurd z (by decide), hn sz ns _ hz4 hz5 (ag45 t 2)⟩
  · refine Or.inl ⟨rfl, fun hz4 hz5 x1 hx1 => ?_⟩
    subst hx1
    refine ⟨fun h9 => absurd hz h9, fun h9 => absurd hz h9, fun x2 hx2 x5 hx5 x6 hx6 => i_go1 hz ⟨fun _ => ?_, fun h9 => absurd rfl h9⟩⟩
    exact ⟨thr_same t 1, fun z => absurd z (by decide), hn sz ns _ hz4 hz5 (ag45 t 1)⟩
  · refine Or.inr (Or.inl ⟨rfl, fun hz4 hz5 x1 hx1 => ?_⟩)
    subst hx1
    refine ⟨fun _ => hd, fun _ h9 => absurd hz2 h9, fun x2 hx2 x5 hx5 x6 hx6 => i_go2 hz ?_ ⟨fun _ => ?_, fun h9 => absurd rfl h9⟩⟩
    · rw [hx2, if_neg (fun z => z.2.1 hz2)]
    · exact ⟨thr_same t 2, fun z => absurd z (by decide), hn sz ns _ hz4 hz5 (ag45 t 2)⟩
end MP
