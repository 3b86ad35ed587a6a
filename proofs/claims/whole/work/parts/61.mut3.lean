/-! MUTATORS: pitches, turns, transpositions, paper -/
section MG
variable {lb : Nat × Nat} {o so po : Nat} {I : Nat → CS → MS → Prop}
theorem si_setPitch (hI : Im lb o so po I) : Si_setPitch lb o I := by
  intro n S t ov a1 a2 a3 a4 h
  obtain ⟨hA, hr, hn, hm⟩ := hI n S t h
  have hB := rA_B hA
  have hM := rA_M hA
  have hn24 := hM.2.1
  refine ⟨(szC S + 100, nsC S + 2000), rm_0 hr, a_reqRange rm_1 (fun hc hc2 => ⟨hA.1, a_Ev hA rm_1 (fun v i j hv hi hj ev ei ej hz hd hz2 => ?_) (fun hz sz ns => ?_) (fun hz hd hz2 sz ns => ?_)⟩) (fun hc sz ns => ?_)⟩
  · subst ev
    subst ei
    subst ej
    obtain ⟨q1, q2, q3⟩ := cc_ev hB hM hi hv hj
    obtain ⟨k1, k2, k3, k4, k5, k6⟩ := q3
    have hz8 := z_v hM hi hv hj
    have hp := zp_lt (v := v) (i := i) (j := j) hv (by omega) (by have := (z_r hM hi hv).1; omega)
    have hi31 : zp v i j < 2147483648 := by omega
    obtain ⟨w1, w2⟩ := wr_c hA hv (a := a4) (x := nI v)
    have e13 : mgA t 13 (nI v) = t.2 13 v := Ag_A (Ag_rfl t) (by decide) (by omega)
    obtain ⟨x, x1, x2, x3⟩ := r_in (a := a4) (x := 0) (y := 127) (by decide) (by decide) hc2
    rw [oG_so hA.2.1, w2]
    refine ⟨ne_so hA.2.1, hB.1, w1, fun e => ⟨rm_1, fun sz ns => ?_⟩, fun e => ⟨k1, fun x9 hx9 t10 ht10 => ?_⟩⟩
    · refine Or.inr (Or.inr ⟨rfl, fun hz3 hz4 y1 hy1 => ?_⟩)
      have h1 : ¬ y1 = 0 := by rw [hy1, if_pos ⟨hz, hc⟩]; exact one_ne
      refine ⟨fun _ => hd, fun y2 hy2 => ?_⟩
      have h2 : ¬ y2 = 0 := by rw [hy2, if_pos ⟨h1, hz2⟩]; exact one_ne
      rw [e13]
      refine ⟨fun _ => vp_nI (n := 4) hv (by decide), fun y4 hy4 => i_go3 h1 h2 (by rw [hy4, if_neg (fun z => z.2 e)]) ⟨fun _ => ?_, fun h9 => absurd rfl h9⟩⟩
      exact ⟨thr_same t 3, fun z => absurd z (by decide), hn sz ns _ hz3 hz4 (ag45 t 3)⟩
    · subst ht10
      have e51 : fI (usI S 50 (evL S so v i j) a4) 51 (evL S so v i j) = t.2 12 (zp v i j) := by
        rw [fI_ne (by decide)]
        exact k5
      have e50 : v_X0_isNote (evL S so v i j) (usI S 50 (evL S so v i j) a4) = (if ¬ a4 ≤ 0 then 1 else 0) := by
        unfold v_X0_isNote
        rw [fI_at, if_pos rfl]
      rw [e51, e50]
      refine ⟨fun _ => k1, fun x11 hx11 => ?_⟩
      have g11 : gb x11 := by
        rw [hx11]
        exact gb_if
      have e11 : x11 = if ¬ t.2 12 (zp v i j) = 0 ∧ ¬ a4 ≤ 0 then 1 else 0 := by
        have h0 : (if ¬ a4 ≤ 0 then (1 : Int32) else 0) = 0 ↔ a4 ≤ 0 := by
          by_cases e9 : a4 ≤ 0
          · rw [if_neg (fun z => z e9)]
            exact ⟨fun _ => e9, fun _ => rfl⟩
          · rw [if_pos e9]
            exact ⟨fun z => absurd z one_ne, fun z => absurd z e9⟩
        rw [hx11]
        by_cases e8 : ¬ t.2 12 (zp v i j) = 0 ∧ ¬ a4 ≤ 0
        · rw [if_pos e8, if_pos ⟨e8.1, fun z => e8.2 (h0.mp z)⟩]
        · rw [if_neg e8, if_neg (fun z => e8 ⟨z.1, fun z9 => z.2 (h0.mpr z9)⟩)]
      refine ⟨g11, fun t14 ht14 => ?_⟩
      subst ht14
      refine i_ed hA.2.1 hB.1 ?_
      intro _ _ y1 hy1
      have h1 : ¬ y1 = 0 := by rw [hy1, if_pos ⟨hz, hc⟩]; exact one_ne
      refine ⟨fun _ => hd, fun y2 hy2 => ?_⟩
      have h2 : ¬ y2 = 0 := by rw [hy2, if_pos ⟨h1, hz2⟩]; exact one_ne
      rw [e13]
      refine ⟨fun _ => vp_nI (n := 4) hv (by decide), fun y4 hy4 => i_go0 h1 h2 (by rw [hy4, if_pos ⟨h2, e⟩]; exact one_ne) ⟨fun h9 => absurd h9 one_ne, fun _ y7 hy7 => ?_⟩⟩
      rw [pl_nI hv] at hy7
      subst hy7
      refine ⟨vp_nI (n := 1536) hp (by decide), fun y9 hy9 => ⟨vp_nI (n := 1536) hp (by decide), fun t11 ht11 => ⟨vp_nI (n := 1536) hp (by decide), fun y13 hy13 => ⟨vp_nI (n := 1536) hp (by decide), ?_⟩⟩⟩⟩
      have e12 : mgA t11 12 (nI (zp v i j)) = t.2 12 (zp v i j) := by
        rw [ht11]
        show (msA (msI t 45 0) 8 (nI (zp v i j)) a4).2 12 (nI (zp v i j)).toNatClampNeg = _
        rw [mA_ne (by decide), nI_clamp (by omega)]
        rfl
      rw [e12] at hy13
      have e13' : y13 = x11 := by rw [hy13, e11]
      rw [e13']
      refine ⟨g11, fun t16 ht16 => ?_⟩
      subst ht11
      subst ht16
      have e9 : y9 = x9 := by
        rw [hy9, hx9, Ag_A (ag45 t 0) (f := 8) (i := zp v i j) (by decide) hi31]
        exact k2.symm
      refine ⟨thr_same t 0, fun _ => by rw [e9]; rfl, hm _ _ ?_ ?_ ?_ (Nat.le_add_right _ _) (Nat.le_add_right _ _)⟩
      · refine rA_evt hA hv hi hj (x8 := a4) (x11 := t.2 11 (zp v i j)) (x12 := x11) rfl rfl rfl rfl rfl (Eqf_usI (Eqf_usI (Eqf_usI Eqf_rfl (Or.inl (by unfold fOt fP0 fT0 fS0; decide))) (Or.inl (by unfold fOt fP0 fT0 fS0; decide))) (Or.inl (by unfold fOt fP0 fT0 fS0; decide))) (fun f f1 f2 f3 f4 => by rw [fI_ne f4, fI_ne f2, fI_ne f1]) (fun q => ?_) (fun q => ?_) (fun q => ?_) (fun k hk => n45 rfl (by omega)) (fun k g1 g2 g3 => by rw [mA_ne g3, mA_ne g1]; rfl) (fun q => ?_) (fun q => ?_) (fun q => ?_) ?_ g11
        · rw [fI_ne (f' := 50) (by decide), fI_ne (f' := 50) (by decide), fI_at]
        · rw [fI_ne (f' := 52) (by decide), fI_ne (f' := 52) (by decide), fI_ne (f' := 52) (by decide), if_at k4.symm]
        · rw [fI_ne (f' := 51) (by decide), fI_at, fI_ne (f' := 51) (by decide)]
        · rw [mA_ne (f' := 8) (by decide), mA_at hi31]
          rfl
        · rw [mA_ne (f' := 11) (by decide), mA_ne (f' := 11) (by decide)]
          exact (if_at rfl).symm
        · rw [mA_at hi31, mA_ne (f' := 12) (by decide)]
          rfl
        · rw [x3, aN_nI (by omega)]
          exact ⟨rfl, x2⟩
      · rw [ed_at, fI_ne (by decide), fI_ne (by decide)]
      · exact Eqf_usI (Eqf_usI (Eqf_usI Eqf_rfl (Or.inl (by unfold fKp; decide))) (Or.inl (by unfold fKp; decide))) (Or.inl (by unfold fKp; decide))
  · refine Or.inl ⟨rfl, fun hz1 hz2 x1 hx1 => ?_⟩
    have h1 : x1 = 0 := by rw [hx1, if_neg (fun z => z.1 hz)]
    refine ⟨fun h9 => absurd h1 h9, fun x2 hx2 => ?_⟩
    have h2 : x2 = 0 := by rw [hx2, if_neg (fun z => z.1 h1)]
    refine ⟨fun h9 => absurd h2 h9, fun x4 hx4 => i_go1 h1 ⟨fun _ => ?_, fun h9 => absurd rfl h9⟩⟩
    exact ⟨thr_same t 1, fun z => absurd z (by decide), hn sz ns _ hz1 hz2 (ag45 t 1)⟩
  · refine Or.inr (Or.inl ⟨rfl, fun hz3 hz4 x1 hx1 => ?_⟩)
    have h1 : ¬ x1 = 0 := by rw [hx1, if_pos ⟨hz, hc⟩]; exact one_ne
    refine ⟨fun _ => hd, fun x2 hx2 => ?_⟩
    have h2 : x2 = 0 := by rw [hx2, if_neg (fun z => z.2 hz2)]
    refine ⟨fun h9 => absurd h2 h9, fun x4 hx4 => i_go2 h1 h2 ⟨fun _ => ?_, fun h9 => absurd rfl h9⟩⟩
    exact ⟨thr_same t 2, fun z => absurd z (by decide), hn sz ns _ hz3 hz4 (ag45 t 2)⟩
  · refine Or.inl ⟨rfl, fun hz1 hz2 x1 hx1 => ?_⟩
    have h1 : x1 = 0 := by rw [hx1, if_neg (fun z => z.2 hc)]
    refine ⟨fun h9 => absurd h1 h9, fun x2 hx2 => ?_⟩
    have h2 : x2 = 0 := by rw [hx2, if_neg (fun z => z.1 h1)]
    refine ⟨fun h9 => absurd h2 h9, fun x4 hx4 => i_go1 h1 ⟨fun _ => ?_, fun h9 => absurd rfl h9⟩⟩
    exact ⟨thr_same t 1, fun z => absurd z (by decide), hn sz ns _ hz1 hz2 (ag45 t 1)⟩
theorem si_allowTurn (hI : Im lb o so po I) : Si_allowTurn lb o I := by
  intro n S t ov a1 a2 a3 h hgb
  obtain ⟨hA, hr, hn, hm⟩ := hI n S t h
  have hB := rA_B hA
  have hM := rA_M hA
  have hn24 := hM.2.1
  refine ⟨(szC S + 100, nsC S + 2000), rm_0 hr, a_VB hA rm_1 (fun v i hv hi ev ei hz hz2 => ?_) (fun hz sz ns => ?_) (fun hz hz2 sz ns => ?_)⟩
  · subst ev
    subst ei
    obtain ⟨r1, r2, r3⟩ := cc_rw hB hM hi hv
    have hq : 24 * v + i < 2147483648 := by omega
    have e178 : fI S 178 (rwL S so v i) = t.2 7 (24 * v + i) := (rB_hr hB v i hv (by rw [cc_n hB hM]; exact hi)).1
    have g7 : gb (t.2 7 (24 * v + i)) := (z_r hM hi hv).2.2.1
    rw [oG_so hA.2.1, r2]
    refine ⟨ne_so hA.2.1, hB.1, r1, r3, fun x8 hx8 => ⟨hgb, fun t10 ht10 => ?_⟩⟩
    subst ht10
    refine i_ed hA.2.1 hB.1 ?_
    have g8 : gb x8 := by rw [hx8, e178]; exact g7
    have key : ∀ Q : Int32 → MS → Prop, Q x8 (msA (msI t 45 0) 7 (nI (24 * v + i)) a3) → w_allowTurn (nI v) (nI i) a3 t Q := by
      intro Q hQ
      refine i_go0 hz hz2 one_ne ⟨fun h9 => absurd h9 one_ne, fun _ => ?_⟩
      rw [at_nI hv]
      refine ⟨vp_nI (n := 96) (by omega) (by decide), fun x3 hx3 => ⟨vp_nI (n := 96) (by omega) (by decide), hgb, fun t6 ht6 => ?_⟩⟩
      subst ht6
      have e3 : x3 = x8 := by
        rw [hx3, hx8, e178, Ag_A (ag45 t 0) (f := 7) (i := 24 * v + i) (by decide) hq]
      rw [e3]
      exact ⟨g8, hQ⟩
    have hfin : I n (usI (usI S 178 (rwL S so v i) a3) 199 so (fI (usI S 178 (rwL S so v i) a3) 199 so + 1)) (msA (msI t 45 0) 7 (nI (24 * v + i)) a3) := by
      refine hm _ _ ?_ ?_ ?_ (Nat.le_add_right _ _) (Nat.le_add_right _ _)
      · refine rA_val hA (Eqf_usI (Eqf_usI Eqf_rfl (Or.inl (by unfold fOt fP0 fT0 fS0; decide))) (Or.inl (by unfold fOt fP0 fT0 fS0; decide))) ?_ ?_ (fun _ _ _ _ _ _ => rfl) (fun k hk => n45 rfl (by omega)) (fun k _ hk => mA_ne (by omega)) ?_
        · refine rB_upd hB rfl rfl rfl rfl rfl rfl (n45 rfl (by decide)) (mA_ne (by decide)) (mA_ne (by decide)) (mA_ne (by decide)) ?_ ?_ ?_ ?_ ?_ ?_
          · rw [fI_ne (by decide), fI_ne (by decide)]
          · rw [fI_ne (by decide), fI_ne (by decide)]
          · rw [fI_ne (by decide), fI_ne (by decide)]
          · rw [fI_ne (f' := 80) (by decide), fI_ne (f' := 80) (by decide), fI_ne (f' := 81) (by decide), fI_ne (f' := 81) (by decide), fI_ne (f' := 82) (by decide), fI_ne (f' := 82) (by decide), mA_ne (f' := 1) (by decide), mA_ne (f' := 2) (by decide), mA_ne (f' := 3) (by decide)]
            exact rB_hb hB
          · intro v2 i2 hv2 hi2
            obtain ⟨c1, c2⟩ := rB_hr hB v2 i2 hv2 hi2
            rw [fI_ne (f' := 178) (by decide), fI_at, mA_at hq]
            by_cases e : 24 * v2 + i2 = 24 * v + i
            · rw [if_pos ((e_rw hB hM hv2 hv hi2 hi).mpr e), if_pos e]
              exact ⟨rfl, hgb⟩
            · rw [if_neg (fun z => e ((e_rw hB hM hv2 hv hi2 hi).mp z)), if_neg e]
              exact ⟨c1, c2⟩
          · rw [fI_ne (f' := 50) (by decide), fI_ne (f' := 50) (by decide), fI_ne (f' := 51) (by decide), fI_ne (f' := 51) (by decide), fI_ne (f' := 52) (by decide), fI_ne (f' := 52) (by decide), mA_ne (f' := 8) (by decide), mA_ne (f' := 11) (by decide), mA_ne (f' := 12) (by decide)]
            exact rB_he hB
        · refine zM_upd hM (n45 rfl (by decide)) (mA_ne (by decide)) (mA_ne (by decide)) (mA_ne (by decide)) ?_ ?_ ?_
          · unfold zB zU
            rw [mA_ne (f' := 1) (by decide), mA_ne (f' := 2) (by decide), mA_ne (f' := 3) (by decide)]
            exact zM_hb hM
          · intro v2 i2 hv2 hi2
            unfold zL zB zU
            rw [mA_ne (f' := 1) (by decide), mA_ne (f' := 2) (by decide), mA_at hq]
            obtain ⟨c1, c2⟩ := zM_hr hM v2 i2 hv2 hi2
            refine ⟨?_, c2⟩
            by_cases e : 24 * v2 + i2 = 24 * v + i
            · rw [if_pos e]; exact hgb
            · rw [if_neg e]; exact c1
          · rw [mA_ne (f' := 8) (by decide), mA_ne (f' := 12) (by decide)]
            exact zM_he hM
        · obtain ⟨c0, c1⟩ := rA_Z hA
          refine ⟨c0, fun v2 i2 hv2 hi2 hi3 => ?_⟩
          have hi4 : zN t ≤ i2 := hi2
          obtain ⟨c2, c3⟩ := c1 v2 i2 hv2 hi4 hi3
          rw [mA_ne (f' := 6) (by decide), mA_at hq, if_neg (by omega)]
          exact ⟨c2, c3⟩
      · rw [ed_at, fI_ne (by decide)]
      · exact Eqf_usI (Eqf_usI Eqf_rfl (Or.inl (by unfold fKp; decide))) (Or.inl (by unfold fKp; decide))
    refine ⟨g8, fun z => ?_, fun z => ?_⟩
    · intro _ _
      exact key _ ⟨thr_same t 0, fun _ => (gbL g8).1 z, hfin⟩
    · intro _ _
      exact key _ ⟨thr_same t 0, fun _ => (gbL g8).2 z, hfin⟩
  · refine Or.inl ⟨rfl, fun hz1 hz2 => i_go1 hz ⟨fun _ => ?_, fun h9 => absurd rfl h9⟩⟩
    exact ⟨thr_same t 1, fun z => absurd z (by decide), hn sz ns _ hz1 hz2 (ag45 t 1)⟩
  · refine Or.inr ⟨rfl, fun hz3 hz4 => i_go2 hz hz2 ⟨fun _ => ?_, fun h9 => absurd rfl h9⟩⟩
    exact ⟨thr_same t 2, fun z => absurd z (by decide), hn sz ns _ hz3 hz4 (ag45 t 2)⟩
end MG
