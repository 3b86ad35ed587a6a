/-! dropRepeat -/
section MN
variable {lb : Nat × Nat} {o so po : Nat} {I : Nat → CS → MS → Prop}
theorem si_dropRepeat (hI : Im lb o so po I) : Si_dropRepeat lb o I := by
  intro n S t ov a1 h
  obtain ⟨hA, hr, hn, hm⟩ := hI n S t h
  have hB := rA_B hA
  have hM := rA_M hA
  have hT := rA_T hA
  have hn24 := hM.2.1
  have hnr := rt_n hT hM
  have hso : kdC S so ≠ 0 := by rw [hB.1]; decide
  refine ⟨(szC S + 100, nsC S + 2000), rm_0 hr, hA.1, a_B hA rm_1 (fun f hf ef hz => ?_) (fun hz sz ns => ?_)⟩
  · subst ef
    have hf31 : f < 2147483648 := by omega
    have e4 : mgA t 4 (nI f) = t.2 4 f := Ag_A (Ag_rfl t) (by decide) hf31
    rw [oG_so hA.2.1]
    refine ⟨ne_so hA.2.1, hB.1, cc_repFrom hT hM hB.1 hf (fun k hk hy h160 => ⟨fun h9 => ?_, fun _ => ?_⟩) (fun hy => ⟨fun _ => ⟨rm_1, fun sz ns => ?_⟩, fun h9 => absurd rfl h9⟩)⟩
    · exact absurd h9 (fun z => by
        have : (nI k).toInt = (-1 : Int32).toInt := by rw [z]
        rw [nI_toInt (by omega)] at this
        exact absurd this (by show ¬ (k : Int) = -1; omega))
    · rw [oG_so hA.2.1]
      obtain ⟨q1, q2, q3, i2, q4, q5, q6, q7, q8⟩ := cc_rt hT hM hk
      have e2 : i2 = f := by
        rw [q6] at h160
        exact (nI_eq (by omega) (by omega)).mp h160
      subst e2
      have hO : t.2 4 i2 = nI (zO t i2) := (hT.2.1 i2 hf hy).1
      have hck : (nI k).toNatClampNeg = k := nI_clamp (by omega)
      have hmem : ∀ y, y ∈ fL S 194 so → kdC S y = cEK 194 := fun y hy => by
        obtain ⟨k, k1, k2⟩ := gl_mem hy
        have k3 := (cc_rt hT hM (k := k) k1).2.2.1
        have k4 : rtL S so k = y := k2
        rw [k4] at k3
        exact k3
      rw [q2, q7, hck]
      refine ⟨ne_so hA.2.1, hB.1, q1, q3, fun x11 hx11 => ⟨⟨hT.1, hmem⟩, q1, fun t14 ht14 => ?_⟩⟩
      have hs18 : fR t14 224 o = some so := by rw [ht14]; exact hA.2.1
      have hk18 : kdC t14 so = 12 := by rw [ht14]; exact hB.1
      refine i_ed hs18 hk18 ?_
      have hL14 : fL t14 194 so = (fL S 194 so).eraseIdx k := by
        rw [ht14]
        show up2 (fL S) 194 so _ 194 so = _
        rw [up2_is]
      intro _ _ x1 hx1
      subst hx1
      refine ⟨fun _ => vp_nI (n := 24) (by omega) (by decide), fun x2 hx2 => ?_⟩
      have hx2' : ¬ x2 = 0 := by
        rw [hx2, e4, if_pos ⟨hz, hy⟩]
        exact one_ne
      refine i_go0 hz hx2' one_ne ⟨fun h9 => absurd h9 one_ne, fun _ => ⟨vp_nI (n := 24) (by omega) (by decide), fun x6 hx6 => ⟨vp_nI (n := 24) (by omega) (by decide), fun t8 ht8 => ?_⟩⟩⟩
      have e6 : x6 = x11 := by
        rw [hx6, hx11, Ag_A (ag45 t 0) (f := 4) (i := i2) (by decide) hf31]
        exact hO
      have h1' : ∀ k, k ≠ 45 → t8.1 k = t.1 k := fun k hk => by rw [ht8]; exact n45 rfl hk
      have h2' : ∀ k, k ≠ 4 → t8.2 k = t.2 k := fun k k4 => by
        rw [ht8, mA_ne k4]
        rfl
      have h4' : ∀ k, t8.2 4 k = if k = i2 then -1 else t.2 4 k := fun k => by
        rw [ht8, mA_at hf31]
        rfl
      have hthr : v_thrown t8 = 0 := by
        rw [ht8]
        exact thr_same t 0
      have eN : zN t8 = zN t := by unfold zN; rw [h1' 0 (by decide)]
      have gE : ∀ P : Nat → Prop, ¬ P 194 → ¬ P 199 → Eqf P S (usI t14 199 so (fI t14 199 so + 1)) := fun P g1 g2 => by
        rw [ht14]
        exact Eqf_usI (Eqf_usL Eqf_rfl (Or.inl g1)) (Or.inl g2)
      refine ⟨hthr, fun _ => by rw [e6]; rfl, hm _ _ ?_ ?_ (gE _ (by unfold fKp; decide) (by unfold fKp; decide)) ?_ ?_⟩
      · refine rA_oth hA (gE _ (by unfold fB0; decide) (by unfold fB0; decide)) (gE _ (by decide) (by decide)) (h1' 0 (by decide)) (fun k hk => h2' k (by omega)) (congrFun (h2' 26 (by decide)) 0) ?_ ?_ ?_
        · exact rP_c hso (rA_P hA) (gE _ (by unfold fP0; decide) (by unfold fP0; decide)) (fun v i j hv hi hj => evL_c hB hM (gE _ (by unfold fB0; decide) (by unfold fB0; decide)) hi hv) (h1' 0 (by decide)) (h2' 6 (by decide)) (h1' 14 (by decide)) (h2' 15 (by decide)) (h2' 16 (by decide)) (h2' 17 (by decide)) (h2' 18 (by decide)) (h2' 19 (by decide)) (h2' 20 (by decide))
        · have hr' : ∀ j, rtL (usI t14 199 so (fI t14 199 so + 1)) so j = if j < k then rtL S so j else rtL S so (j + 1) := fun j => by
            unfold rtL
            show ((fL t14 194 so)[j]?).getD 0 = _
            rw [hL14, gl_er]
          have hnr' : nrS (usI t14 199 so (fI t14 199 so + 1)) so = nrS S so - 1 := by
            show (fL t14 194 so).length = _
            rw [hL14, List.length_eraseIdx_of_lt hk]
            rfl
          have sI : ∀ f, f ≠ 199 → fI (usI t14 199 so (fI t14 199 so + 1)) f = fI S f := fun f hf => by
            rw [fI_ne hf, ht14]
            rfl
          have sK : kdC (usI t14 199 so (fI t14 199 so + 1)) = kdC S := by
            rw [ht14]
            rfl
          obtain ⟨b1, b2, b3, b4, b5, b6⟩ := hT
          have hcn : zCn t8 (zN t) + 1 = nrS S so := by
            have g := zCn_up (A := t8) (A' := t) (a := i2) (by rw [h4', if_pos rfl]) hy (fun k hk => by rw [h4', if_neg hk]) (zN t)
            rw [if_pos hf, b3] at g
            exact g.symm
          have uq : ∀ j, j < nrS S so → j ≠ k → ∃ i, i < zN t ∧ i ≠ i2 ∧ zY t i ∧ fI S 160 (rtL S so j) = nI i ∧ fI S 161 (rtL S so j) = t.2 4 i ∧ fI S 162 (rtL S so j) = t.2 5 i := fun j hj hjk => by
            obtain ⟨d1, i, d2, d3, d4, d5, d6⟩ := b4 j hj
            refine ⟨i, d2, fun z => hjk (b6 j k hj hk ?_), d3, d4, d5, d6⟩
            rw [d4, z, h160]
          refine ⟨?_, ?_, ?_, ?_, ?_, ?_⟩
          · show fC t14 194 so ≤ 500000
            rw [ht14]
            show up2 (fC S) 194 so _ 194 so ≤ 500000
            rw [up2_is]
            exact b1
          · intro i hi hy2
            rw [eN] at hi ⊢
            have hy' : ¬ t8.2 4 i = -1 := hy2
            have ne : i ≠ i2 := fun z => hy' (by rw [z, h4', if_pos rfl])
            rw [h4', if_neg ne] at hy'
            unfold zO zG
            rw [h4', if_neg ne, h2' 5 (by decide)]
            obtain ⟨r1, r2, r3, r4, r5, r6⟩ := b2 i hi hy'
            refine ⟨r1, r2, r3, r4, r5, fun i3 i4 i5 => ?_⟩
            have i6 : i3 ≤ zO t i := i5
            rw [h4']
            by_cases e9 : i3 = i2
            · rw [if_pos e9]
            · rw [if_neg e9]
              exact r6 i3 i4 i6
          · rw [eN, hnr']
            omega
          · intro j hj
            rw [hnr'] at hj
            rw [hr', sK, sI 160 (by decide), sI 161 (by decide), sI 162 (by decide), eN]
            by_cases e9 : j < k
            · rw [if_pos e9]
              obtain ⟨i, d2, dn, d3, d4, d5, d6⟩ := uq j (by omega) (by omega)
              refine ⟨(b4 j (by omega)).1, i, d2, ?_, d4, ?_, ?_⟩
              · show ¬ t8.2 4 i = -1
                rw [h4', if_neg dn]
                exact d3
              · rw [h4', if_neg dn]
                exact d5
              · rw [h2' 5 (by decide)]
                exact d6
            · rw [if_neg e9]
              obtain ⟨i, d2, dn, d3, d4, d5, d6⟩ := uq (j + 1) (by omega) (by omega)
              refine ⟨(b4 (j + 1) (by omega)).1, i, d2, ?_, d4, ?_, ?_⟩
              · show ¬ t8.2 4 i = -1
                rw [h4', if_neg dn]
                exact d3
              · rw [h4', if_neg dn]
                exact d5
              · rw [h2' 5 (by decide)]
                exact d6
          · intro i hi hy2
            rw [eN] at hi
            have hy' : ¬ t8.2 4 i = -1 := hy2
            have ne : i ≠ i2 := fun z => hy' (by rw [z, h4', if_pos rfl])
            rw [h4', if_neg ne] at hy'
            obtain ⟨j, j1, j2⟩ := b5 i hi hy'
            have hjk : j ≠ k := fun z => by
              rw [z, h160] at j2
              exact ne ((nI_eq (by omega) (by omega)).mp j2).symm
            rw [hnr', sI 160 (by decide)]
            by_cases e9 : j < k
            · refine ⟨j, by omega, ?_⟩
              rw [hr', if_pos e9]
              exact j2
            · refine ⟨j - 1, by omega, ?_⟩
              rw [hr', if_neg (by omega), show j - 1 + 1 = j by omega]
              exact j2
          · intro j j2 hj hj2 z
            rw [hnr'] at hj hj2
            rw [hr', hr', sI 160 (by decide)] at z
            by_cases e9 : j < k
            · rw [if_pos e9] at z
              by_cases e8 : j2 < k
              · rw [if_pos e8] at z
                exact b6 j j2 (by omega) (by omega) z
              · rw [if_neg e8] at z
                have := b6 j (j2 + 1) (by omega) (by omega) z
                omega
            · rw [if_neg e9] at z
              by_cases e8 : j2 < k
              · rw [if_pos e8] at z
                have := b6 (j + 1) j2 (by omega) (by omega) z
                omega
              · rw [if_neg e8] at z
                have := b6 (j + 1) (j2 + 1) (by omega) (by omega) z
                omega
        · exact rS_c hso (rA_S hA) (gE _ (by unfold fS0; decide) (by unfold fS0; decide)) (h2' 13 (by decide)) (h1' 21 (by decide)) (h1' 22 (by decide)) (h1' 23 (by decide))
      · rw [ed_at, ht14]
        rfl
      · show szC t14 ≤ szC S + 100
        rw [ht14]
        exact Nat.le_add_right _ _
      · show nsC t14 ≤ nsC S + 2000
        rw [ht14]
        exact Nat.le_add_right _ _
    · refine Or.inr ⟨rfl, fun hz3 hz4 x1 hx1 => ?_⟩
      subst hx1
      refine ⟨fun _ => vp_nI (n := 24) (by omega) (by decide), fun x2 hx2 => i_go2 hz ?_ ⟨fun _ => ?_, fun h9 => absurd rfl h9⟩⟩
      · rw [hx2, e4, if_neg (fun z => z.2 hy)]
      · exact ⟨thr_same t 2, fun z => absurd z (by decide), hn sz ns _ hz3 hz4 (ag45 t 2)⟩
  · refine Or.inl ⟨rfl, fun hz3 hz4 x1 hx1 => ?_⟩
    subst hx1
    refine ⟨fun h9 => absurd hz h9, fun x2 hx2 => i_go1 hz ⟨fun _ => ?_, fun h9 => absurd rfl h9⟩⟩
    exact ⟨thr_same t 1, fun z => absurd z (by decide), hn sz ns _ hz3 hz4 (ag45 t 1)⟩
end MN
