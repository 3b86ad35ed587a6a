/-! CALLS OF THE PLAYING: time by events -/
def zTq (A : MS) (v b : Nat) : Nat := if zE A v b = 0 then zTb A b else zT A b (zS A v b (zE A v b))
def zTe (A : MS) (L : List Nat) (v : Nat) : Nat → Nat
  | 0 => 0
  | p + 1 => zTe A L v p + zTq A v (gn L p)
section TE
variable {A t : MS} {L : List Nat} {S : CS} {so po v : Nat}
theorem cc_timeOfEvents (hB : rB S A so) (w : zM A) (hk : kdC S po = 9) (hpl : plC A S po L) (hL : ∀ x, x ∈ L → x < zN A) (h48 : L.length ≤ 48) (hv : v < 4) {B : Nat × Nat} {Q : Int32 → CS → Prop} {X : String → CS → Prop} (hQ : Q (nI (zTe A L v L.length)) S) : w_X6_timeOfEvents B po so (nI v) S Q X := by
  refine lp_seq (fun k => (nI (zTe A L v k), nI k, S)) L.length ?_ ?_ 0 (Nat.zero_le _)
  · intro k hk4 K hK
    have hb := gn_lt hL hk4
    have e146 := hpl.1
    have e144 := (hpl.2.1 k hk4).1
    obtain ⟨r1, r2, r3⟩ := cc_rw hB w hb hv
    have ee := cc_e hB w hb hv
    have he := (z_r w hb hv).1
    have hs := z_sL w hb hv (k := zE A v (gn L k)) (Nat.le_refl _)
    have hl := z_len w hb
    unfold w_X6_timeOfEvents_L5
    dsimp only
    rw [e146, nI_clamp (by omega), e144]
    refine ⟨hk, fun h9 => absurd h9 (nI_ge hk4 (by omega)), fun _ => ⟨vp_nI (n := 48) (by omega) (by decide), fun x3 hx3 => ?_⟩⟩
    subst hx3
    rw [r2]
    have el : (fL S 176 (rwL S so v (gn L k))).length = zE A v (gn L k) := ee
    refine ⟨hB.1, r1, r3, ⟨r3, by rw [el]; omega⟩, fun x t9 => x = nI (zTq A v (gn L k)) ∧ t9 = S, fun x8 t9 h89 x10 hx10 => ?_, fun h0 => ?_, fun h0 => ?_⟩
    · obtain ⟨g1, g2⟩ := h89
      rw [hx10, g1, g2, nI_add, nI_1]
      exact hK
    · have hne : ¬ zE A v (gn L k) = 0 := fun z => by
        unfold v_X8_isEmpty at h0
        rw [el, if_pos z] at h0
        exact one_ne h0
      refine cc_tempo hB w _ hb ?_
      obtain ⟨g1, g2⟩ := cc_time hB w hb (x := zS A v (gn L k) (zE A v (gn L k))) (by omega)
      rw [cc_ticks hB w hb hv, g2]
      refine ⟨g1, ?_, rfl⟩
      unfold zTq
      rw [if_neg hne]
    · have hz : zE A v (gn L k) = 0 := Classical.byContradiction fun z => h0 (by unfold v_X8_isEmpty; rw [el, if_neg z])
      refine cc_timeOfBar hB w hb ⟨?_, rfl⟩
      unfold zTq
      rw [if_pos hz]
      rfl
  · intro K
    unfold w_X6_timeOfEvents_L5
    dsimp only
    rw [hpl.1]
    exact ⟨hk, fun _ => hQ, fun h9 => absurd (nI_le (Nat.le_refl _) (by omega)) h9⟩
end TE
section TS
variable {lb : Nat × Nat} {o so po : Nat} {I : Nat → CS → MS → Prop}
end TS
