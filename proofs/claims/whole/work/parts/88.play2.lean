/-! CALLS OF THE PLAYING: time by events -/
def zTq (A : MS) (v b : Nat) : Nat := if zE A v b = 0 then zTb A b else zT A b (zS A v b (zE A v b))
def zTe (A : MS) (L : List Nat) (v : Nat) : Nat → Nat
  | 0 => 0
  | p + 1 => zTe A L v p + zTq A v (gn L p)
section TE
variable {A t : MS} {L : List Nat} {S : CS} {so po v : Nat}
theorem cc_timeOfEvents (hB : rB S A so) (w : zM A) (hk : kdC S po = 9) (hpl : plC A S po L) (hL : ∀ x, x ∈ L → x < zN A) (h48 : L.length ≤ 48) (hv : v < 4) {B : Nat × Nat} {Q : Int32 → CS → Prop} {X : String → CS → Prop} (hQ : Q (nI (zTe A L v L.length)) S) : w_X6_timeOfEvents B po so (nI v) S Q X := by
  refine lp_seq (fun k => (nI (zTe A L v k), nI k, S)) L.length ?_ ?_ 0 (Nat.zero_le _)
  · intro k hk4 K hK
    have hb := gn_lt hL hk4
    have e146 := hpl.1
    have e144 := (hpl.2.1 k hk4).1
    obtain ⟨r1, r2, r3⟩ := cc_rw hB w hb hv
    have ee := cc_e hB w hb hv
    have he := (z_r w hb hv).1
    have hs := z_sL w hb hv (k := zE A v (gn L k)) (Nat.le_refl _)
    have hl := z_len w hb
    unfold w_X6_timeOfEvents_L5
    dsimp only
    rw [e146, nI_clamp (by omega), e144]
    refine ⟨hk, fun h9 => absurd h9 (nI_ge hk4 (by omega)), fun _ => ⟨vp_nI (n := 48) (by omega) (by decide), fun x3 hx3 => ?_⟩⟩
    subst hx3
    rw [r2]
    have el : (fL S 176 (rwL S so v (gn L k))).length = zE A v (gn L k) := ee
    refine ⟨hB.1, r1, r3, ⟨r3, by rw [el]; omega⟩, fun x t9 => x = nI (zTq A v (gn L k)) ∧ t9 = S, fun x8 t9 h89 x10 hx10 => ?_, fun h0 => ?_, fun h0 => ?_⟩
    · obtain ⟨g1, g2⟩ := h89
      rw [hx10, g1, g2, nI_add, nI_1]
      exact hK
    · have hne : ¬ zE A v (gn L k) = 0 := fun z => by
        unfold v_X8_isEmpty at h0
        rw [el, if_pos z] at h0
        exact one_ne h0
      refine cc_tempo hB w _ hb ?_
      obtain ⟨g1, g2⟩ := cc_time hB w hb (x := zS A v (gn L k) (zE A v (gn L k))) (by omega)
      rw [cc_ticks hB w hb hv, g2]
      refine ⟨g1, ?_, rfl⟩
      unfold zTq
      rw [if_neg hne]
    · have hz : zE A v (gn L k) = 0 := Classical.byContradiction fun z => h0 (by unfold v_X8_isEmpty; rw [el, if_neg z])
      refine cc_timeOfBar hB w hb ⟨?_, rfl⟩
      unfold zTq
      rw [if_pos hz]
      rfl
  · intro K
    unfold w_X6_timeOfEvents_L5
    dsimp only
    rw [hpl.1]
    exact ⟨hk, fun _ => hQ, fun h9 => absurd (nI_le (Nat.le_refl _) (by omega)) h9⟩
theorem mm_timeByEvents (w : zM A) (g : Ag A t) (hp : plM A t L) (hL : ∀ x, x ∈ L → x < zN A) (h48 : L.length ≤ 48) (hv : v < 4) {Q : Int32 → MS → Prop} (hQ : Q (nI (zTe A L v L.length)) t) : ∃ n, lp (w_timeByEvents_L23 (nI v) Q) n (0, 0, t) := by
  have hn := w.2.1
  refine lp_seq (fun k => (nI (zTe A L v k), nI k, t)) L.length ?_ ?_ 0 (Nat.zero_le _)
  · intro k hk4 K hK
    have hb := gn_lt hL hk4
    have e24 : mgI t 24 = nI L.length := hp.1
    have e25 : mgA t 25 (nI k) = nI (gn L k) := by
      show t.2 25 (nI k).toNatClampNeg = _
      rw [nI_clamp (by omega)]
      exact hp.2.1 k hk4
    have he := z_r w hb hv
    have hs := z_sL w hb hv (k := zE A v (gn L k)) (Nat.le_refl _)
    have hl := z_len w hb
    obtain ⟨l1, l2⟩ := mm_len w g hb
    have e6 : mgA t 6 (nI (24 * v + gn L k)) = nI (zE A v (gn L k)) := by
      rw [Ag_A g (f := 6) (i := 24 * v + gn L k) (by decide) (by omega), he.2.1]
    unfold w_timeByEvents_L23
    dsimp only
    rw [e24, e25]
    refine ⟨fun h9 => absurd h9 (nI_ge hk4 (by omega)), fun _ => ⟨vp_nI (n := 48) (by omega) (by decide), fun x4 hx4 => ?_⟩⟩
    subst hx4
    rw [at_nI hv, e6]
    refine ⟨vp_nI (n := 96) (by omega) (by decide), fun x t9 => (∃ y, y ≤ 2304 ∧ x = nI y ∧ zT A (gn L k) y = zTq A v (gn L k)) ∧ t9 = t, fun x8 t9 h89 => ?_, fun h0 => ⟨l1, ?_, rfl⟩, fun h0 => ?_⟩
    · obtain ⟨⟨y, y1, y2, y3⟩, g2⟩ := h89
      rw [g2, y2]
      refine mm_lasts w g hb y1 (fun x9 hx9 => ?_)
      rw [hx9, y3, nI_add, nI_1]
      exact hK
    · have hz : zE A v (gn L k) = 0 := Classical.byContradiction fun z => nI_ne0 (by omega) (by have := he.1; omega) h0
      refine ⟨zL A (gn L k), by omega, l2, ?_⟩
      unfold zTq
      rw [if_pos hz]
      rfl
    · have hne : ¬ zE A v (gn L k) = 0 := fun z => h0 (by rw [z]; rfl)
      refine mm_all w g hb hv ⟨⟨_, by omega, rfl, ?_⟩, rfl⟩
      unfold zTq
      rw [if_neg hne]
  · intro K
    have e24 : mgI t 24 = nI L.length := hp.1
    unfold w_timeByEvents_L23
    dsimp only
    rw [e24]
    exact ⟨fun _ => hQ, fun h9 => absurd (nI_le (Nat.le_refl _) (by omega)) h9⟩
end TE
section TS
variable {lb : Nat × Nat} {o so po : Nat} {I : Nat → CS → MS → Prop}
theorem si_timeByEvents (hI : Ip lb o so po I) : Si_timeByEvents lb o I := by
  intro n S t ov a1 h
  obtain ⟨hA, B, ⟨l1, l2⟩, hP, hw, hn⟩ := hI n S t h
  obtain ⟨l3, l4⟩ := hP.2.2.2.1
  have h48 := zPl_len48 (rA_M hA) (rA_T hA).2.1 (Nat.le_refl _)
  have hL : ∀ x, x ∈ zPl t (zN t) → x < zN t := zPl_lt (rA_M hA) (rA_T hA).2.1 (Nat.le_refl _)
  by_cases h0 : v_isVoice a1 = 0
  · refine ⟨(szC S + 100, nsC S + 2000), ⟨⟨Nat.le_trans (Nat.add_le_add_right l3 100) l1, Nat.le_trans (Nat.add_le_add_right l4 2000) l2⟩, ⟨Nat.le_add_right _ _, Nat.le_add_right _ _⟩⟩, a_reqVoice ⟨Nat.add_le_add_left (by decide) _, Nat.add_le_add_left (by decide) _⟩ (fun v hv ev hz => absurd h0 hz) (fun _ sz ns => ⟨rfl, fun hz1 hz2 => i_go1 h0 ⟨fun _ => ?_, fun z => absurd rfl z⟩⟩)⟩
    exact ⟨thr_same t 1, fun z => absurd z (by decide), hw sz ns _ hz1 hz2 (Ag_msI (Ag_rfl t) (by decide))⟩
  · refine ⟨(B.1 + 100, B.2 + 2000), ⟨⟨l1, l2⟩, ⟨Nat.le_add_right_of_le l3, Nat.le_add_right_of_le l4⟩⟩, a_reqVoice ⟨by show _ ≤ B.1 + 100; omega, by show _ ≤ B.2 + 2000; omega⟩ (fun v hv ev hz => ⟨rA_k hA, cc_played hA hP (Nat.le_add_right _ _) (Nat.le_add_right _ _) (fun S' hR => ?_)⟩) (fun z => absurd z h0)⟩
    subst ev
    obtain ⟨-, hA', ⟨hpl, -⟩, -, -, -, -, q7, q8⟩ := id hR
    rw [rA_s hA']
    refine ⟨fun z => (by cases z), rA_kp hA', cc_timeOfEvents (rA_B hA') (rA_M hA) (rA_kp hA') hpl hL h48 hv (fun _ _ => i_go0 hz one_ne one_ne ⟨fun z => absurd z one_ne, fun _ => ?_⟩)⟩
    refine mm_laysPlaces (rA_M hA) (rA_T hA).2.1 (rA_Z hA).1 (Ag_msI (Ag_rfl t) (by decide)) (fun t' F g pl => mm_timeByEvents (rA_M hA) g pl hL h48 hv ?_)
    exact ⟨(F.1 45 (by decide)).trans (thr_same t 0), fun _ => rfl, hn S' (szC S') (nsC S') _ hR (Nat.le_add_right_of_le q7) (Nat.le_add_right_of_le q8) g⟩
end TS
