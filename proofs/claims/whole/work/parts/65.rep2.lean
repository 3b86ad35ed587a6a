/-! addRepeat, dropRepeat -/
section MM
variable {lb : Nat × Nat} {o so po : Nat} {I : Nat → CS → MS → Prop}
theorem i_ed2 {S1 : CS} {o so : Nat} {Q : CS → Prop} (hs : fR S1 224 o = some so) (hk : kdC S1 so = 12) (h : Q (usI S1 199 so (fI S1 199 so + 1))) : ((fR S1 224 o) ≠ none) ∧ (kdC S1 (oG (fR S1 224 o)) = 12) ∧ ∀ t : CS, t = usI S1 199 (oG (fR S1 224 o)) ((fI S1 199 (oG (fR S1 224 o))) + 1) → Q t := i_ed hs hk h
theorem kd_new {S : CS} {ci q : Nat} (h0 : kdC S (szC S) = 0) (hq : kdC S q ≠ 0) : kdC (newO S ci) q = kdC S q := va_up_ne (kdC S) _ (fun z => hq (by rw [z]; exact h0))
theorem fR_new {S : CS} {ci f q : Nat} (h0 : kdC S (szC S) = 0) (hq : kdC S q ≠ 0) : fR (newO S ci) f q = fR S f q := if_neg (fun z => hq (by rw [z]; exact h0))
theorem fI_new {S : CS} {ci f q : Nat} (h0 : kdC S (szC S) = 0) (hq : kdC S q ≠ 0) : fI (newO S ci) f q = fI S f q := if_neg (fun z => hq (by rw [z]; exact h0))
theorem nI_sub_le {a b : Nat} (h : b ≤ a) : nI a - nI b = nI (a - b) := pk_sub h
theorem si_addRepeat (hI : Im lb o so po I) : Si_addRepeat lb o I := by
  intro n S t ov a1 a2 a3 h
  obtain ⟨hA, hr, hn, hm⟩ := hI n S t h
  have hB := rA_B hA
  have hM := rA_M hA
  have hT := rA_T hA
  have hn24 := hM.2.1
  have hnr := rt_n hT hM
  have hso : kdC S so ≠ 0 := by rw [hB.1]; decide
  have ho : kdC S o ≠ 0 := by rw [hA.1]; decide
  refine ⟨(szC S + 100, nsC S + 2000), rm_0 hr, hA.1, a_B hA rm_1 (fun f hf ef hz => a_B hA rm_1 (fun g hg eg hz2 => ⟨fun hle => ?_, fun hle => ⟨rm_1, fun sz ns => ?_⟩⟩) (fun hz2 sz ns => ?_)) (fun hz sz ns => ?_)⟩
  · subst ef
    subst eg
    have hfg : f ≤ g := (nI_leI (by omega) (by omega)).mp hle
    have hnlt : ¬ nI g < nI f := nI_nlt hfg (by omega)
    have eb : ∀ i, i < zN t → ((t.2 4 i = -1 ∨ t.2 4 i < nI f ∨ ¬ nI i ≤ nI g) ↔ (zY t i → zO t i < f ∨ g < i)) := by
      intro i hi
      have e2 : ¬ nI i ≤ nI g ↔ g < i := by
        rw [nI_leI (by omega) (by omega)]
        omega
      by_cases e : t.2 4 i = -1
      · exact ⟨fun _ z => absurd e z, fun _ => Or.inl e⟩
      · obtain ⟨g1, -, -, g4, -⟩ := hT.2.1 i hi e
        rw [g1, nI_ltI (by omega) (by omega), e2]
        refine ⟨fun z _ => z.resolve_left (fun z9 => e (g1.trans z9)), fun z => Or.inr (z e)⟩
    refine a_reqRange rm_1 (fun hc hc2 => ⟨ne_so hA.2.1, by rw [oG_so hA.2.1]; exact hB.1, ?_⟩) (fun hc sz ns => ?_)
    · have hx2 : (if (¬ nI g < nI f) ∧ ¬ v_in a3 0 (nI g - nI f) = 0 then (1 : Int32) else 0) = 1 := if_pos ⟨hnlt, hc⟩
      have hx1 : (if (¬ v_isBar (nI f) t = 0) ∧ ¬ v_isBar (nI g) t = 0 then (1 : Int32) else 0) = 1 := if_pos ⟨hz, hz2⟩
      rw [pk_sub hfg] at hc2
      obtain ⟨c, c1, c2, c3⟩ := r_in (a := a3) (x := 0) (y := g - f) (by decide) (by omega) hc2
      subst c3
      rw [oG_so hA.2.1]
      refine cc_isRep hT hM hB.1 hf hg (fun hF => ⟨fun _ => ?_, fun h9 => absurd rfl h9⟩) (fun hF => ⟨fun h9 => absurd h9 one_ne, fun _ => ⟨rm_1, fun sz ns => ?_⟩⟩)
      · rw [oG_so hA.2.1]
        refine ⟨ne_so hA.2.1, hB.1, ⟨Nat.add_le_add_left (by decide) _, Nat.add_le_add_left (by decide) _⟩, fun h0 t12 ht12 => ?_⟩
        subst ht12
        obtain ⟨e, he⟩ : ∃ e, e = szC S := ⟨_, rfl⟩
        rw [← he]
        have h0e : kdC S e = 0 := by rw [he]; exact h0
        have kne : kdC (newO S 10) e = 10 := by
          rw [he]
          exact va_up_self (kdC S) _ _
        refine ⟨kne, fun t2 ht2 t3 ht3 t4 ht4 => ?_⟩
        subst ht2
        subst ht3
        subst ht4
        obtain ⟨S1, hS1⟩ : ∃ S1, S1 = usI (usI (usI (newO S 10) 160 e (nI f)) 161 e (nI g)) 162 e (nI c) := ⟨_, rfl⟩
        rw [← hS1]
        have hk1 : ∀ q, kdC S q ≠ 0 → kdC S1 q = kdC S q := fun q hq => by rw [hS1]; exact kd_new h0 hq
        have hke : kdC S1 e = 10 := by rw [hS1]; exact kne
        have hL1 : fL S1 = fL S := by rw [hS1]; rfl
        have hC1 : fC S1 = fC S := by rw [hS1]; rfl
        have hR1 : ∀ q f, kdC S q ≠ 0 → fR S1 f q = fR S f q := fun q f hq => by rw [hS1]; exact fR_new h0 hq
        have hz1 : szC S1 = szC S + 1 := by rw [hS1]; rfl
        have hn1 : nsC S1 = nsC S + 3 := by rw [hS1]; rfl
        have hc5 : fC S1 194 so ≤ 500000 := by rw [hC1]; exact hT.1
        have hlen : (fL S1 194 so).length = nrS S so := by rw [hL1]; rfl
        obtain ⟨p1, p2, p3⟩ := cap_le (S := S1) (f := 194) (o := so)
        rw [hlen] at p2 p3
        have hmem : ∀ y, y ∈ fL S1 194 so → kdC S1 y = cEK 194 := fun y hy => by
          rw [hL1] at hy
          obtain ⟨k, k1, k2⟩ := gl_mem hy
          have k3 := (cc_rt hT hM (k := k) k1).2.2.1
          have k4 : rtL S so k = y := k2
          rw [k4] at k3
          rw [hk1 y (by rw [k3]; decide), k3]
          rfl
        refine ⟨⟨hc5, hmem⟩, hke, ⟨?_, ?_⟩, fun sz17 ns17 z1 z2 z3 t18 ht18 => ?_⟩
        · show szC S1 + lcA S1 194 so ≤ e + 100
          omega
        · show nsC S1 + lcS S1 194 so ≤ nsC S + 2000
          omega
        have hs18 : fR t18 224 o = some so := by
          rw [ht18]
          exact (hR1 o 224 ho).trans hA.2.1
        have hk18 : kdC t18 so = 12 := by
          rw [ht18]
          exact (hk1 so hso).trans hB.1
        refine i_ed hs18 hk18 ?_
        have hs21 : fR (usI t18 199 so (fI t18 199 so + 1)) 224 o = some so := hs18
        rw [oG_so hs21]
        refine ⟨ne_so hs21, hk18, ?_⟩
        have hL18 : fL t18 194 so = fL S 194 so ++ [e] := by
          rw [ht18]
          show up2 (fL S1) 194 so _ 194 so = _
          rw [up2_is, hL1]
        have hl21 : (fL (usI t18 199 so (fI t18 199 so + 1)) 194 so).length = nrS S so + 1 := by
          show (fL t18 194 so).length = _
          rw [hL18, List.length_append]
          rfl
        rw [hl21]
        intro hzz1 hzz2
        refine mm_addRep hM (fun x hx01 hx => ?_)
        rw [hx1, hx2]
        have ex : x = 1 := hx.mpr (fun i hi => (eb i hi).mpr (hF i hi))
        subst ex
        have hf31 : f < 2147483648 := by omega
        refine i_go0 one_ne one_ne one_ne ⟨fun h9 => absurd h9 one_ne, fun _ => ⟨vp_nI (n := 24) (by omega) (by decide), fun t5 ht5 => ⟨vp_nI (n := 24) (by omega) (by decide), fun t7 ht7 => ?_⟩⟩⟩
        subst ht5
        obtain ⟨A', hA'⟩ : ∃ A', A' = msA (msA (msI t 45 0) 4 (nI f) (nI g)) 5 (nI f) (nI c) := ⟨_, rfl⟩
        rw [← hA'] at ht7
        subst ht7
        have h1' : ∀ k, k ≠ 45 → t7.1 k = t.1 k := fun k hk => by rw [hA']; exact n45 rfl hk
        have h2' : ∀ k, k ≠ 4 → k ≠ 5 → t7.2 k = t.2 k := fun k k4 k5 => by
          rw [hA', mA_ne k5, mA_ne k4]
          rfl
        have h4' : ∀ k, t7.2 4 k = if k = f then nI g else t.2 4 k := fun k => by
          rw [hA', mA_ne (f' := 4) (by decide), mA_at hf31]
          rfl
        have h5' : ∀ k, t7.2 5 k = if k = f then nI c else t.2 5 k := fun k => by
          rw [hA', mA_at hf31, mA_ne (f' := 5) (by decide)]
          rfl
        have hg1 : ¬ nI g = -1 := fun z => by
          have : (nI g).toInt = (-1 : Int32).toInt := by rw [z]
          rw [nI_toInt (by omega)] at this
          exact absurd this (by show ¬ (g : Int) = -1; omega)
        have hf1 : t.2 4 f = -1 := Classical.byContradiction fun z => by
          obtain ⟨-, -, q3, -⟩ := hT.2.1 f hf z
          have := hF f hf z
          omega
        have eN : zN t7 = zN t := by unfold zN; rw [h1' 0 (by decide)]
        have hcn : zCn t7 (zN t) = nrS S so + 1 := by
          rw [zCn_up (A := t) (A' := t7) (a := f) hf1 (by rw [h4', if_pos rfl]; exact hg1) (fun k hk => by rw [h4', if_neg hk]), if_pos hf, hT.2.2.1]
        refine mm_repeats (n := zN t) hn24 ((h1' 0 (by decide)).trans hM.1) ?_
        rw [hcn]
        have hthr : v_thrown t7 = 0 := by
          rw [hA']
          exact thr_same t 0
        refine ⟨hthr, fun _ => rfl, hm _ _ ?_ ?_ ?_ ?_ ?_⟩
        · have gE : ∀ P : Nat → Prop, ¬ P 194 → ¬ P 199 → Eqf P S (usI t18 199 so (fI t18 199 so + 1)) := fun P g1 g2 => by
            rw [ht18, hS1]
            exact Eqf_usI (Eqf_usL (Eqf_usI (Eqf_usI (Eqf_usI (Eqf_newO Eqf_rfl h0) (Or.inr h0e)) (Or.inr h0e)) (Or.inr h0e)) (Or.inl g1)) (Or.inl g2)
          refine rA_oth hA (gE _ (by unfold fB0; decide) (by unfold fB0; decide)) (gE _ (by decide) (by decide)) (h1' 0 (by decide)) (fun k hk => h2' k (by omega) (by omega)) (congrFun (h2' 26 (by decide) (by decide)) 0) ?_ ?_ ?_
          · exact rP_c hso (rA_P hA) (gE _ (by unfold fP0; decide) (by unfold fP0; decide)) (fun v i j hv hi hj => evL_c hB hM (gE _ (by unfold fB0; decide) (by unfold fB0; decide)) hi hv) (h1' 0 (by decide)) (h2' 6 (by decide) (by decide)) (h1' 14 (by decide)) (h2' 15 (by decide) (by decide)) (h2' 16 (by decide) (by decide)) (h2' 17 (by decide) (by decide)) (h2' 18 (by decide) (by decide)) (h2' 19 (by decide) (by decide)) (h2' 20 (by decide) (by decide))
          · have gR : Eqf (fun f => f / 16 = 10) S (usI t18 199 so (fI t18 199 so + 1)) := gE _ (by decide) (by decide)
            have hr' : ∀ k, rtL (usI t18 199 so (fI t18 199 so + 1)) so k = if k < nrS S so then rtL S so k else if k = nrS S so then e else 0 := fun k => by
              unfold rtL
              show ((fL t18 194 so)[k]?).getD 0 = _
              rw [hL18, gl_app]
              rfl
            have hnr' : nrS (usI t18 199 so (fI t18 199 so + 1)) so = nrS S so + 1 := hl21
            have e160 : fI (usI t18 199 so (fI t18 199 so + 1)) 160 e = nI f ∧ fI (usI t18 199 so (fI t18 199 so + 1)) 161 e = nI g ∧ fI (usI t18 199 so (fI t18 199 so + 1)) 162 e = nI c := by
              rw [fI_ne (f' := 160) (by decide), fI_ne (f' := 161) (by decide), fI_ne (f' := 162) (by decide), ht18, s_usL_fI, hS1, fI_ne (f' := 160) (by decide), fI_ne (f' := 160) (by decide), fI_at, if_pos rfl, fI_ne (f' := 161) (by decide), fI_at, if_pos rfl, fI_at, if_pos rfl]
              exact ⟨rfl, rfl, rfl⟩
            have hke2 : kdC (usI t18 199 so (fI t18 199 so + 1)) e = 10 := by
              rw [ht18]
              exact hke
            have old : ∀ k, k < nrS S so → kdC (usI t18 199 so (fI t18 199 so + 1)) (rtL S so k) = 10 ∧ fI (usI t18 199 so (fI t18 199 so + 1)) 160 (rtL S so k) = fI S 160 (rtL S so k) ∧ fI (usI t18 199 so (fI t18 199 so + 1)) 161 (rtL S so k) = fI S 161 (rtL S so k) ∧ fI (usI t18 199 so (fI t18 199 so + 1)) 162 (rtL S so k) = fI S 162 (rtL S so k) := fun k hk => by
              have k3 := (cc_rt hT hM hk).2.2.1
              obtain ⟨w1, -, w2⟩ := gR (rtL S so k) (by rw [k3]; decide)
              exact ⟨w1.trans k3, (w2 160 (by decide)).1, (w2 161 (by decide)).1, (w2 162 (by decide)).1⟩
            obtain ⟨b1, b2, b3, b4, b5, b6⟩ := hT
            refine ⟨?_, ?_, ?_, ?_, ?_, ?_⟩
            · show fC t18 194 so ≤ 500000
              rw [ht18]
              show up2 (fC S1) 194 so _ 194 so ≤ 500000
              rw [up2_is]
              exact p3 hc5 (by omega)
            · intro i hi hy
              rw [eN] at hi ⊢
              have hy' : ¬ t7.2 4 i = -1 := hy
              unfold zO zG
              by_cases e9 : i = f
              · rw [h4', if_pos e9, h5', if_pos e9, aN_nI (by omega), aN_nI (by omega), e9]
                refine ⟨rfl, rfl, hfg, hg, by omega, fun i2 i3 i4 => ?_⟩
                rw [h4', if_neg (by omega)]
                refine Classical.byContradiction fun z => ?_
                obtain ⟨-, -, q3, q4, -⟩ := b2 i2 (by omega) z
                have := hF i2 (by omega) z
                omega
              · rw [h4', if_neg e9] at hy'
                rw [h4', if_neg e9, h5', if_neg e9]
                obtain ⟨q1, q2, q3, q4, q5, q6⟩ := b2 i hi hy'
                refine ⟨q1, q2, q3, q4, q5, fun i2 i3 i4 => ?_⟩
                have i5 : i2 ≤ zO t i := i4
                have := hF i hi hy'
                rw [h4', if_neg (by omega)]
                exact q6 i2 i3 i5
            · rw [eN, hcn, hnr']
            · intro k hk
              rw [hnr'] at hk
              rw [hr', eN]
              by_cases e9 : k < nrS S so
              · rw [if_pos e9]
                obtain ⟨d1, i, d2, d3, d4, d5, d6⟩ := b4 k e9
                obtain ⟨w1, w2, w3, w4⟩ := old k e9
                have hif : i ≠ f := fun z => d3 (by rw [z]; exact hf1)
                refine ⟨w1, i, d2, ?_, w2.trans d4, ?_, ?_⟩
                · show ¬ t7.2 4 i = -1
                  rw [h4', if_neg hif]
                  exact d3
                · rw [w3, h4', if_neg hif]
                  exact d5
                · rw [w4, h5', if_neg hif]
                  exact d6
              · rw [if_neg e9, if_pos (by omega)]
                refine ⟨hke2, f, hf, ?_, e160.1, ?_, ?_⟩
                · show ¬ t7.2 4 f = -1
                  rw [h4', if_pos rfl]
                  exact hg1
                · rw [e160.2.1, h4', if_pos rfl]
                · rw [e160.2.2, h5', if_pos rfl]
            · intro i hi hy
              rw [eN] at hi
              rw [hnr']
              by_cases e9 : i = f
              · refine ⟨nrS S so, by omega, ?_⟩
                rw [hr', if_neg (Nat.lt_irrefl _), if_pos rfl, e9]
                exact e160.1
              · have hy' : ¬ t7.2 4 i = -1 := hy
                rw [h4', if_neg e9] at hy'
                obtain ⟨k, k1, k2⟩ := b5 i hi hy'
                refine ⟨k, by omega, ?_⟩
                rw [hr', if_pos k1, (old k k1).2.1]
                exact k2
            · have dif : ∀ k, k < nrS S so → ¬ fI S 160 (rtL S so k) = nI f := fun k hk z => by
                obtain ⟨d1, i, d2, d3, d4, d5, d6⟩ := b4 k hk
                rw [d4] at z
                have e9 : i = f := (nI_eq (by omega) (by omega)).mp z
                exact d3 (by rw [e9]; exact hf1)
              intro k k2 hk hk2 z
              rw [hnr'] at hk hk2
              rw [hr', hr'] at z
              by_cases e9 : k < nrS S so
              · rw [if_pos e9, (old k e9).2.1] at z
                by_cases e8 : k2 < nrS S so
                · rw [if_pos e8, (old k2 e8).2.1] at z
                  exact b6 k k2 e9 e8 z
                · rw [if_neg e8, if_pos (by omega), e160.1] at z
                  exact absurd z (dif k e9)
              · rw [if_neg e9, if_pos (by omega), e160.1] at z
                by_cases e8 : k2 < nrS S so
                · rw [if_pos e8, (old k2 e8).2.1] at z
                  exact absurd z.symm (dif k2 e8)
                · omega
          · exact rS_c hso (rA_S hA) (gE _ (by unfold fS0; decide) (by unfold fS0; decide)) (h2' 13 (by decide) (by decide)) (h1' 21 (by decide)) (h1' 22 (by decide)) (h1' 23 (by decide))
        · rw [ed_at, ht18, s_usL_fI, hS1, fI_ne (by decide), fI_ne (by decide), fI_ne (by decide), fI_new h0 hso]
        · rw [ht18, hS1]
          exact Eqf_usI (Eqf_usL (Eqf_usI (Eqf_usI (Eqf_usI (Eqf_newO Eqf_rfl h0) (Or.inr h0e)) (Or.inr h0e)) (Or.inr h0e)) (Or.inl (by unfold fKp; decide))) (Or.inl (by unfold fKp; decide))
        · rw [← he]
          exact hzz1
        · exact hzz2
      · refine Or.inr (Or.inr ⟨rfl, fun hz3 hz4 => mm_addRep hM (fun x hx01 hx => ?_)⟩)
        rw [hx1, hx2]
        have ex : x = 0 := hx01.resolve_right (fun z => hF (fun i hi => (eb i hi).mp (hx.mp z i hi)))
        refine i_go3 one_ne one_ne ex ⟨fun _ => ?_, fun h9 => absurd rfl h9⟩
        exact ⟨thr_same t 3, fun z => absurd z (by decide), hn sz ns _ hz3 hz4 (ag45 t 3)⟩
    · refine Or.inr (Or.inl ⟨rfl, fun hz3 hz4 => mm_addRep hM (fun x hx01 hx => ?_)⟩)
      rw [if_pos ⟨hz, hz2⟩, if_neg (fun z => z.2 hc)]
      refine i_go2 one_ne rfl ⟨fun _ => ?_, fun h9 => absurd rfl h9⟩
      exact ⟨thr_same t 2, fun z => absurd z (by decide), hn sz ns _ hz3 hz4 (ag45 t 2)⟩
  · subst ef
    subst eg
    refine Or.inr (Or.inl ⟨rfl, fun hz3 hz4 => mm_addRep hM (fun x hx01 hx => ?_)⟩)
    have hlt : nI g < nI f := Int32.not_le.mp hle
    rw [if_pos ⟨hz, hz2⟩, if_neg (fun z => z.1 hlt)]
    refine i_go2 one_ne rfl ⟨fun _ => ?_, fun h9 => absurd rfl h9⟩
    exact ⟨thr_same t 2, fun z => absurd z (by decide), hn sz ns _ hz3 hz4 (ag45 t 2)⟩
  · refine Or.inl ⟨rfl, fun hz3 hz4 => mm_addRep hM (fun x hx01 hx => ?_)⟩
    rw [if_neg (fun z => z.2 hz2)]
    refine i_go1 rfl ⟨fun _ => ?_, fun h9 => absurd rfl h9⟩
    exact ⟨thr_same t 1, fun z => absurd z (by decide), hn sz ns _ hz3 hz4 (ag45 t 1)⟩
  · refine Or.inl ⟨rfl, fun hz3 hz4 => mm_addRep hM (fun x hx01 hx => ?_)⟩
    rw [if_neg (fun z => z.1 hz)]
    refine i_go1 rfl ⟨fun _ => ?_, fun h9 => absurd rfl h9⟩
    exact ⟨thr_same t 1, fun z => absurd z (by decide), hn sz ns _ hz3 hz4 (ag45 t 1)⟩
end MM
