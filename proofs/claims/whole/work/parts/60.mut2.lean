/-! MUTATORS OF EVENTS: marks, ties, pitches -/
section ME
variable {S S1 : CS} {t A1 : MS} {o so po : Nat}
theorem rA_evt (hA : rA S t o so po) {v i j : Nat} (hv : v < 4) (hi : i < zN t) (hj : j < zE t v i) {x8 x11 x12 : Int32} (hk : kdC S1 = kdC S) (hR : fR S1 = fR S) (hQ : fQ S1 = fQ S) (hL : fL S1 = fL S) (hC : fC S1 = fC S) (hG : Eqf fOt S S1) (hI : ∀ f, f ≠ 50 → f ≠ 51 → f ≠ 52 → f ≠ 199 → fI S1 f = fI S f)
    (h50 : ∀ q, fI S1 50 q = if q = evL S so v i j then x8 else fI S 50 q) (h52 : ∀ q, fI S1 52 q = if q = evL S so v i j then x11 else fI S 52 q) (h51 : ∀ q, fI S1 51 q = if q = evL S so v i j then x12 else fI S 51 q)
    (h1 : ∀ k, k < 24 → A1.1 k = t.1 k) (h2 : ∀ k, k ≠ 8 → k ≠ 11 → k ≠ 12 → A1.2 k = t.2 k)
    (h8 : ∀ q, A1.2 8 q = if q = zp v i j then x8 else t.2 8 q) (h11 : ∀ q, A1.2 11 q = if q = zp v i j then x11 else t.2 11 q) (h12 : ∀ q, A1.2 12 q = if q = zp v i j then x12 else t.2 12 q)
    (hx8 : x8 = nI (aN x8) ∧ aN x8 ≤ 127) (hx12 : gb x12) : rA S1 A1 o so po := by
  have hB := rA_B hA
  have hM := rA_M hA
  have g : ∀ k, k ≠ 8 → k ≠ 11 → k ≠ 12 → A1.2 k = t.2 k := h2
  refine rA_val hA hG ?_ ?_ (fun v2 i2 j2 _ _ _ => by unfold evL rwL mrL; rw [hL, hQ]) h1 (fun k _ hk => h2 k (by omega) (by omega) (by omega)) (zZ_k (rA_Z hA) (h1 0 (by decide)) (h2 6 (by decide) (by decide) (by decide)) (h2 7 (by decide) (by decide) (by decide)) (congrFun (h2 26 (by decide) (by decide) (by decide)) 0))
  · refine rB_upd hB hk (by rw [hQ]) (by rw [hL]) (by rw [hL]) (by rw [hC]) (by rw [hC]) (h1 0 (by decide)) (h2 6 (by decide) (by decide) (by decide)) (h2 9 (by decide) (by decide) (by decide)) (h2 10 (by decide) (by decide) (by decide)) (hI 48 (by decide) (by decide) (by decide) (by decide)) (hI 49 (by decide) (by decide) (by decide) (by decide)) (hI 177 (by decide) (by decide) (by decide) (by decide)) ?_ ?_ ?_
    · rw [hI 80 (by decide) (by decide) (by decide) (by decide), hI 81 (by decide) (by decide) (by decide) (by decide), hI 82 (by decide) (by decide) (by decide) (by decide), h2 1 (by decide) (by decide) (by decide), h2 2 (by decide) (by decide) (by decide), h2 3 (by decide) (by decide) (by decide)]
      exact rB_hb hB
    · rw [hI 178 (by decide) (by decide) (by decide) (by decide), h2 7 (by decide) (by decide) (by decide)]
      exact rB_hr hB
    · intro v2 i2 j2 hv2 hi2 hj2
      obtain ⟨c1, c2, c3⟩ := rB_he hB v2 i2 j2 hv2 hi2 hj2
      rw [h50, h51, h52, h8, h11, h12]
      by_cases e : zp v2 i2 j2 = zp v i j
      · have e9 := (e_ev hB hM hv2 hv hi2 hi hj2 hj).mpr e
        rw [if_pos e9, if_pos e9, if_pos e9, if_pos e, if_pos e, if_pos e]
        exact ⟨rfl, rfl, rfl⟩
      · have e9 : ¬ evL S so v2 i2 j2 = evL S so v i j := fun z => e ((e_ev hB hM hv2 hv hi2 hi hj2 hj).mp z)
        rw [if_neg e9, if_neg e9, if_neg e9, if_neg e, if_neg e, if_neg e]
        exact ⟨c1, c2, c3⟩
  · refine zM_upd hM (h1 0 (by decide)) (h2 6 (by decide) (by decide) (by decide)) (h2 9 (by decide) (by decide) (by decide)) (h2 10 (by decide) (by decide) (by decide)) ?_ ?_ ?_
    · unfold zB zU
      rw [h2 1 (by decide) (by decide) (by decide), h2 2 (by decide) (by decide) (by decide), h2 3 (by decide) (by decide) (by decide)]
      exact zM_hb hM
    · unfold zL zB zU
      rw [h2 1 (by decide) (by decide) (by decide), h2 2 (by decide) (by decide) (by decide), h2 7 (by decide) (by decide) (by decide)]
      exact zM_hr hM
    · intro v2 i2 j2 hv2 hi2 hj2
      obtain ⟨c1, c2, c3⟩ := zM_he hM v2 i2 j2 hv2 hi2 hj2
      rw [h8, h12]
      by_cases e : zp v2 i2 j2 = zp v i j
      · rw [if_pos e, if_pos e]
        exact ⟨hx8.1, hx8.2, hx12⟩
      · rw [if_neg e, if_neg e]
        exact ⟨c1, c2, c3⟩
theorem if_at {α β : Type} {f : α → β} {a q : α} {x : β} [h : Decidable (q = a)] (hx : x = f a) : (if q = a then x else f q) = f q := by
  by_cases e : q = a
  · rw [if_pos e, hx, e]
  · rw [if_neg e]
theorem wr_eq {x a b : Int32} : v_X9_isPitchOrRest a b = v_isWritten x a b := by
  unfold v_X9_isPitchOrRest v_isWritten v_in
  by_cases e : ¬ a + b < 1 ∧ ¬ 127 < a + b
  · rw [if_pos (Or.inr e), if_pos e, if_pos (Or.inr one_ne)]
  · rw [if_neg e]
    by_cases e2 : a = 0
    · rw [if_pos (Or.inl e2), if_pos (Or.inl e2)]
    · rw [if_neg (fun z => z.elim e2 e), if_neg (fun z => z.elim e2 (fun z => z rfl))]
theorem wr_c (hA : rA S t o so po) {v : Nat} (hv : v < 4) {a x : Int32} : d_X9_canBeWritten so (nI v) a S ∧ v_X9_canBeWritten so (nI v) a S = v_isWritten x a (t.2 13 v) := by
  refine ⟨⟨(rA_B hA).1, vp_nI (n := 4) hv (by decide)⟩, ?_⟩
  unfold v_X9_canBeWritten
  rw [nI_clamp (by omega), (rA_S hA).1 v hv]
  exact wr_eq
end ME
section MF
variable {lb : Nat × Nat} {o so po : Nat} {I : Nat → CS → MS → Prop}
theorem si_setMark (hI : Im lb o so po I) : Si_setMark lb o I := by
  intro n S t ov a1 a2 a3 a4 h
  obtain ⟨hA, hr, hn, hm⟩ := hI n S t h
  have hB := rA_B hA
  have hM := rA_M hA
  have hn24 := hM.2.1
  refine ⟨(szC S + 100, nsC S + 2000), rm_0 hr, a_reqRange rm_1 (fun hc _ => ⟨hA.1, a_Ev hA rm_1 (fun v i j hv hi hj ev ei ej hz hd hz2 => ?_) (fun hz sz ns => ?_) (fun hz hd hz2 sz ns => ?_)⟩) (fun hc sz ns => ?_)⟩
  · subst ev
    subst ei
    subst ej
    obtain ⟨q1, q2, q3⟩ := cc_ev hB hM hi hv hj
    obtain ⟨k1, k2, k3, k4, k5, k6⟩ := q3
    have hz8 := z_v hM hi hv hj
    have hp := zp_lt (v := v) (i := i) (j := j) hv (by omega) (by have := (z_r hM hi hv).1; omega)
    refine ⟨k1, fun x5 hx5 t6 ht6 => ?_⟩
    subst ht6
    refine i_ed hA.2.1 hB.1 ?_
    intro _ _ x1 hx1
    have h1 : ¬ x1 = 0 := by rw [hx1, if_pos ⟨hz, hc⟩]; exact one_ne
    refine ⟨fun _ => hd, fun x2 hx2 => ?_⟩
    have h2 : ¬ x2 = 0 := by rw [hx2, if_pos ⟨h1, hz2⟩]; exact one_ne
    refine i_go0 h1 h2 one_ne ⟨fun h9 => absurd h9 one_ne, fun _ => ?_⟩
    rw [pl_nI hv]
    refine ⟨vp_nI (n := 1536) hp (by decide), fun x6 hx6 => ⟨vp_nI (n := 1536) hp (by decide), fun t8 ht8 => ?_⟩⟩
    subst ht8
    have e6 : x6 = x5 := by
      rw [hx6, hx5, Ag_A (ag45 t 0) (f := 11) (i := zp v i j) (by decide) (by omega)]
      exact k4.symm
    have hi31 : zp v i j < 2147483648 := by omega
    refine ⟨thr_same t 0, fun _ => by rw [e6]; rfl, hm _ _ ?_ ?_ ?_ (Nat.le_add_right _ _) (Nat.le_add_right _ _)⟩
    · refine rA_evt hA hv hi hj (x8 := t.2 8 (zp v i j)) (x11 := a4) (x12 := t.2 12 (zp v i j)) rfl rfl rfl rfl rfl (Eqf_usI (Eqf_usI Eqf_rfl (Or.inl (by unfold fOt fP0 fT0 fS0; decide))) (Or.inl (by unfold fOt fP0 fT0 fS0; decide))) (fun f f1 f2 f3 f4 => by rw [fI_ne f4, fI_ne f3]) (fun q => ?_) (fun q => ?_) (fun q => ?_) (fun k hk => n45 rfl (by omega)) (fun k g1 g2 g3 => mA_ne g2) (fun q => ?_) (fun q => ?_) (fun q => ?_) ⟨hz8.2.2.2.1, hz8.2.2.2.2.1⟩ hz8.2.2.2.2.2.2.2
      · rw [fI_ne (f' := 50) (by decide), fI_ne (f' := 50) (by decide), if_at k2.symm]
      · rw [fI_ne (f' := 52) (by decide), fI_at]
      · rw [fI_ne (f' := 51) (by decide), fI_ne (f' := 51) (by decide), if_at k5.symm]
      · rw [mA_ne (f' := 8) (by decide)]
        exact (if_at rfl).symm
      · exact mA_at hi31
      · rw [mA_ne (f' := 12) (by decide)]
        exact (if_at rfl).symm
    · rw [ed_at, fI_ne (by decide)]
    · exact Eqf_usI (Eqf_usI Eqf_rfl (Or.inl (by unfold fKp; decide))) (Or.inl (by unfold fKp; decide))
  · refine Or.inl ⟨rfl, fun hz1 hz2 x1 hx1 => ?_⟩
    have h1 : x1 = 0 := by rw [hx1, if_neg (fun z => z.1 hz)]
    refine ⟨fun h9 => absurd h1 h9, fun x2 hx2 => i_go1 h1 ⟨fun _ => ?_, fun h9 => absurd rfl h9⟩⟩
    exact ⟨thr_same t 1, fun z => absurd z (by decide), hn sz ns _ hz1 hz2 (ag45 t 1)⟩
  · refine Or.inr ⟨rfl, fun hz3 hz4 x1 hx1 => ?_⟩
    have h1 : ¬ x1 = 0 := by rw [hx1, if_pos ⟨hz, hc⟩]; exact one_ne
    refine ⟨fun _ => hd, fun x2 hx2 => ?_⟩
    have h2 : x2 = 0 := by rw [hx2, if_neg (fun z => z.2 hz2)]
    refine i_go2 h1 h2 ⟨fun _ => ?_, fun h9 => absurd rfl h9⟩
    exact ⟨thr_same t 2, fun z => absurd z (by decide), hn sz ns _ hz3 hz4 (ag45 t 2)⟩
  · refine Or.inl ⟨rfl, fun hz1 hz2 x1 hx1 => ?_⟩
    have h1 : x1 = 0 := by rw [hx1, if_neg (fun z => z.2 hc)]
    refine ⟨fun h9 => absurd h1 h9, fun x2 hx2 => i_go1 h1 ⟨fun _ => ?_, fun h9 => absurd rfl h9⟩⟩
    exact ⟨thr_same t 1, fun z => absurd z (by decide), hn sz ns _ hz1 hz2 (ag45 t 1)⟩
theorem gbL {x : Int32} (h : gb x) : (¬ x = 0 → (1 : Int64) = lboL x) ∧ (x = 0 → (0 : Int64) = lboL x) := by
  unfold lboL
  exact ⟨fun z => by rw [if_neg z], fun z => by rw [if_pos z]⟩
theorem si_setTie (hI : Im lb o so po I) : Si_setTie lb o I := by
  intro n S t ov a1 a2 a3 a4 h hgb
  obtain ⟨hA, hr, hn, hm⟩ := hI n S t h
  have hB := rA_B hA
  have hM := rA_M hA
  have hn24 := hM.2.1
  refine ⟨(szC S + 100, nsC S + 2000), rm_0 hr, hA.1, a_Ev hA rm_1 (fun v i j hv hi hj ev ei ej hz hd hz2 => ?_) (fun hz sz ns => ?_) (fun hz hd hz2 sz ns => ?_)⟩
  · subst ev
    subst ei
    subst ej
    obtain ⟨q1, q2, q3⟩ := cc_ev hB hM hi hv hj
    obtain ⟨k1, k2, k3, k4, k5, k6⟩ := q3
    have hz8 := z_v hM hi hv hj
    have hp := zp_lt (v := v) (i := i) (j := j) hv (by omega) (by have := (z_r hM hi hv).1; omega)
    have hi31 : zp v i j < 2147483648 := by omega
    have en : v_X0_isNote (evL S so v i j) S = (if ¬ t.2 8 (zp v i j) ≤ 0 then 1 else 0) := by
      unfold v_X0_isNote
      rw [k2]
    have e8 : mgA t 8 (nI (zp v i j)) = t.2 8 (zp v i j) := Ag_A (Ag_rfl t) (by decide) hi31
    rw [en]
    refine ⟨k1, k1, fun e => ⟨rm_1, fun sz ns => ?_⟩, fun e x6 hx6 => ⟨hgb, fun t8 ht8 => ?_⟩⟩
    · have e9 : t.2 8 (zp v i j) ≤ 0 := Classical.byContradiction fun z => by
        rw [if_pos z] at e
        exact one_ne e
      refine Or.inr (Or.inr ⟨rfl, fun hz3 hz4 x1 hx1 => ?_⟩)
      subst hx1
      refine ⟨fun _ => hd, fun x2 hx2 => ?_⟩
      have h2 : ¬ x2 = 0 := by rw [hx2, if_pos ⟨hz, hz2⟩]; exact one_ne
      rw [pl_nI hv, e8]
      refine ⟨fun _ => vp_nI (n := 1536) hp (by decide), fun x4 hx4 => i_go3 hz h2 ?_ ⟨fun _ => ?_, fun h9 => absurd rfl h9⟩⟩
      · rw [hx4, if_neg (fun z => z.2 e9)]
      · exact ⟨thr_same t 3, fun z => absurd z (by decide), hn sz ns _ hz3 hz4 (ag45 t 3)⟩
    · have e9 : ¬ t.2 8 (zp v i j) ≤ 0 := fun z => by
        rw [if_neg (fun z2 => z2 z)] at e
        exact e rfl
      subst ht8
      refine i_ed hA.2.1 hB.1 ?_
      have e51 : x6 = t.2 12 (zp v i j) := hx6.trans k5
      have g6 : gb x6 := by rw [e51]; exact hz8.2.2.2.2.2.2.2
      have key : ∀ Q : Int32 → MS → Prop, Q x6 (msA (msI t 45 0) 12 (nI (zp v i j)) a4) → w_setTie (nI v) (nI i) (nI j) a4 t Q := by
        intro Q hQ x1 hx1
        subst hx1
        refine ⟨fun _ => hd, fun x2 hx2 => ?_⟩
        have h2 : ¬ x2 = 0 := by rw [hx2, if_pos ⟨hz, hz2⟩]; exact one_ne
        rw [pl_nI hv, e8]
        refine ⟨fun _ => vp_nI (n := 1536) hp (by decide), fun x4 hx4 => i_go0 hz h2 (by rw [hx4, if_pos ⟨h2, e9⟩]; exact one_ne) ⟨fun h9 => absurd h9 one_ne, fun _ => ⟨vp_nI (n := 1536) hp (by decide), fun x8 hx8 => ⟨vp_nI (n := 1536) hp (by decide), hgb, fun t11 ht11 => ?_⟩⟩⟩⟩
        subst ht11
        have e86 : x8 = x6 := by
          rw [hx8, e51, Ag_A (ag45 t 0) (f := 12) (i := zp v i j) (by decide) hi31]
        rw [e86]
        exact ⟨g6, hQ⟩
      have hfin : I n (usI (usI S 51 (evL S so v i j) a4) 199 so (fI (usI S 51 (evL S so v i j) a4) 199 so + 1)) (msA (msI t 45 0) 12 (nI (zp v i j)) a4) := by
        refine hm _ _ ?_ ?_ ?_ (Nat.le_add_right _ _) (Nat.le_add_right _ _)
        · refine rA_evt hA hv hi hj (x8 := t.2 8 (zp v i j)) (x11 := t.2 11 (zp v i j)) (x12 := a4) rfl rfl rfl rfl rfl (Eqf_usI (Eqf_usI Eqf_rfl (Or.inl (by unfold fOt fP0 fT0 fS0; decide))) (Or.inl (by unfold fOt fP0 fT0 fS0; decide))) (fun f f1 f2 f3 f4 => by rw [fI_ne f4, fI_ne f2]) (fun q => ?_) (fun q => ?_) (fun q => ?_) (fun k hk => n45 rfl (by omega)) (fun k g1 g2 g3 => mA_ne g3) (fun q => ?_) (fun q => ?_) (fun q => ?_) ⟨hz8.2.2.2.1, hz8.2.2.2.2.1⟩ hgb
          · rw [fI_ne (f' := 50) (by decide), fI_ne (f' := 50) (by decide), if_at k2.symm]
          · rw [fI_ne (f' := 52) (by decide), fI_ne (f' := 52) (by decide), if_at k4.symm]
          · rw [fI_ne (f' := 51) (by decide), fI_at]
          · rw [mA_ne (f' := 8) (by decide)]
            exact (if_at rfl).symm
          · rw [mA_ne (f' := 11) (by decide)]
            exact (if_at rfl).symm
          · exact mA_at hi31
        · rw [ed_at, fI_ne (by decide)]
        · exact Eqf_usI (Eqf_usI Eqf_rfl (Or.inl (by unfold fKp; decide))) (Or.inl (by unfold fKp; decide))
      refine ⟨g6, fun z => ?_, fun z => ?_⟩
      · intro _ _
        exact key _ ⟨thr_same t 0, fun _ => (gbL g6).1 z, hfin⟩
      · intro _ _
        exact key _ ⟨thr_same t 0, fun _ => (gbL g6).2 z, hfin⟩
  · refine Or.inl ⟨rfl, fun hz1 hz2 x1 hx1 => ?_⟩
    subst hx1
    refine ⟨fun h9 => absurd hz h9, fun x2 hx2 => ?_⟩
    have h2 : x2 = 0 := by rw [hx2, if_neg (fun z => z.1 hz)]
    refine ⟨fun h9 => absurd h2 h9, fun x4 hx4 => i_go1 hz ⟨fun _ => ?_, fun h9 => absurd rfl h9⟩⟩
    exact ⟨thr_same t 1, fun z => absurd z (by decide), hn sz ns _ hz1 hz2 (ag45 t 1)⟩
  · refine Or.inr (Or.inl ⟨rfl, fun hz3 hz4 x1 hx1 => ?_⟩)
    subst hx1
    refine ⟨fun _ => hd, fun x2 hx2 => ?_⟩
    have h2 : x2 = 0 := by rw [hx2, if_neg (fun z => z.2 hz2)]
    refine ⟨fun h9 => absurd h2 h9, fun x4 hx4 => i_go2 hz h2 ⟨fun _ => ?_, fun h9 => absurd rfl h9⟩⟩
    exact ⟨thr_same t 2, fun z => absurd z (by decide), hn sz ns _ hz3 hz4 (ag45 t 2)⟩
end MF
