/-! CALLS THAT CHANGE NOTHING: tempo, time, left, written, phrases -/
section CF
variable {lb : Nat × Nat} {o so po : Nat} {I : Nat → CS → MS → Prop}
theorem si_tempo (hI : Iw lb o so po I) : Si_tempo lb o I := by
  intro n S t ov a1 h
  obtain ⟨hA, hr, hn⟩ := hI n S t h
  have hB := hA.2.2.2.2.1
  have hM := hA.2.2.2.2.2.1
  refine ⟨(szC S + 1, nsC S + 6), ⟨hr, ⟨Nat.le_succ _, Nat.le_add_right _ _⟩⟩, hA.1, a_B hA ⟨Nat.le_refl _, Nat.le_refl _⟩ (fun i hi ei hz => ?_) (fun hz sz ns => ?_)⟩
  · subst ei
    rw [oG_so hA.2.1]
    refine ⟨ne_so hA.2.1, hB.1, cc_tempo hB hM i hi ?_⟩
    intro _ _
    refine i_go0 hz one_ne one_ne ⟨_, fun _ _ h => h, fun h9 => absurd h9 one_ne, fun _ => mm_tempo hM (Ag_msI (Ag_rfl t) (by decide)) hi ?_⟩
    exact ⟨thr_same t 0, fun _ => rfl, hn (szC S) (nsC S) _ (Nat.le_succ _) (Nat.le_add_right _ _) (Ag_msI (Ag_rfl t) (by decide))⟩
  · refine ⟨rfl, fun hz1 hz2 => i_go1 hz ⟨_, fun _ _ h => h, fun _ => ?_, fun h9 => absurd rfl h9⟩⟩
    exact ⟨thr_same t 1, fun z => absurd z (by decide), hn sz ns _ hz1 hz2 (Ag_msI (Ag_rfl t) (by decide))⟩
theorem si_time (hI : Iw lb o so po I) : Si_time lb o I := by
  intro n S t ov a1 h
  obtain ⟨hA, hr, hn⟩ := hI n S t h
  have hB := hA.2.2.2.2.1
  have hM := hA.2.2.2.2.2.1
  refine ⟨(szC S + 1, nsC S + 6), ⟨hr, ⟨Nat.le_succ _, Nat.le_add_right _ _⟩⟩, hA.1, a_B hA ⟨Nat.le_refl _, Nat.le_refl _⟩ (fun i hi ei hz => ?_) (fun hz sz ns => ?_)⟩
  · subst ei
    have hg := Ag_msI (f := 45) (v := 0) (Ag_rfl t) (by decide)
    have hl := z_len hM hi
    obtain ⟨l1, l2⟩ := mm_len hM hg hi
    rw [oG_so hA.2.1]
    refine ⟨ne_so hA.2.1, hB.1, cc_timeOfBar hB hM hi ?_⟩
    intro _ _
    refine i_go0 hz one_ne one_ne ⟨_, fun _ _ h => h, fun h9 => absurd h9 one_ne, fun _ => ⟨l1, ?_⟩⟩
    rw [l2]
    refine mm_lasts hM hg hi (by omega) ?_
    exact ⟨thr_same t 0, fun _ => rfl, hn (szC S) (nsC S) _ (Nat.le_succ _) (Nat.le_add_right _ _) hg⟩
  · refine ⟨rfl, fun hz1 hz2 => i_go1 hz ⟨_, fun _ _ h => h, fun _ => ?_, fun h9 => absurd rfl h9⟩⟩
    exact ⟨thr_same t 1, fun z => absurd z (by decide), hn sz ns _ hz1 hz2 (Ag_msI (Ag_rfl t) (by decide))⟩
theorem si_left (hI : Iw lb o so po I) : Si_left lb o I := by
  intro n S t ov a1 a2 h
  obtain ⟨hA, hr, hn⟩ := hI n S t h
  have hB := hA.2.2.2.2.1
  have hM := hA.2.2.2.2.2.1
  refine ⟨(szC S + 1, nsC S + 6), ⟨hr, ⟨Nat.le_succ _, Nat.le_add_right _ _⟩⟩, a_VB hA ⟨Nat.le_refl _, Nat.le_refl _⟩ (fun v i hv hi ev ei hz hz2 => ?_) (fun hz sz ns => ?_) (fun hz hz2 sz ns => ?_)⟩
  · subst ev
    subst ei
    have hg := Ag_msI (f := 45) (v := 0) (Ag_rfl t) (by decide)
    obtain ⟨l1, l2⟩ := mm_len hM hg hi
    obtain ⟨k1, k2⟩ := cc_left hB hM hi hv
    rw [oG_so hA.2.1, k2]
    refine ⟨ne_so hA.2.1, hB.1, k1, ?_⟩
    intro _ _
    refine i_go0 hz hz2 one_ne ⟨_, fun _ _ h => h, fun h9 => absurd h9 one_ne, fun _ => ⟨l1, ?_⟩⟩
    refine mm_all hM hg hi hv ?_
    rw [l2, pk_sub (z_sL hM hi hv (Nat.le_refl _))]
    exact ⟨thr_same t 0, fun _ => rfl, hn (szC S) (nsC S) _ (Nat.le_succ _) (Nat.le_add_right _ _) hg⟩
  · refine Or.inl ⟨rfl, fun hz1 hz2 => i_go1 hz ⟨_, fun _ _ h => h, fun _ => ?_, fun h9 => absurd rfl h9⟩⟩
    exact ⟨thr_same t 1, fun z => absurd z (by decide), hn sz ns _ hz1 hz2 (Ag_msI (Ag_rfl t) (by decide))⟩
  · refine Or.inr ⟨rfl, fun hz3 hz4 => i_go2 hz hz2 ⟨_, fun _ _ h => h, fun _ => ?_, fun h9 => absurd rfl h9⟩⟩
    exact ⟨thr_same t 2, fun z => absurd z (by decide), hn sz ns _ hz3 hz4 (Ag_msI (Ag_rfl t) (by decide))⟩
theorem nI_isNote {x : Nat} (hx : x ≤ 127) : (if ¬ nI x ≤ 0 then (1 : Int32) else 0) = (if x = 0 then 0 else 1) := by
  by_cases e : x = 0
  · subst e
    rfl
  · rw [if_neg e, if_pos (nI_nle (by omega) (by omega))]
theorem si_written (hI : Iw lb o so po I) : Si_written lb o I := by
  intro n S t ov a1 a2 a3 h
  obtain ⟨hA, hr, hn⟩ := hI n S t h
  have hB := hA.2.2.2.2.1
  have hM := hA.2.2.2.2.2.1
  have hS := rA_S hA
  have hg : ∀ x : Int32, Ag t (msI t 45 x) := fun x => Ag_msI (f := 45) (v := x) (Ag_rfl t) (by decide)
  refine ⟨(szC S + 1, nsC S + 6), ⟨hr, ⟨Nat.le_succ _, Nat.le_add_right _ _⟩⟩, hA.1, a_Ev hA ⟨Nat.le_refl _, Nat.le_refl _⟩ (fun v i j hv hi hj ev ei ej hz hd hz2 => ?_) (fun hz sz ns => ?_) (fun hz hd hz2 sz ns => ?_)⟩
  · subst ev
    subst ei
    subst ej
    have hn24 := hM.2.1
    have he := (z_r hM hi hv).1
    obtain ⟨q1, q2, q3⟩ := cc_ev hB hM hi hv hj
    obtain ⟨-, -, -, p1, p2, -⟩ := z_v hM hi hv hj
    have hp := zp_lt (v := v) (i := i) (j := j) hv (by omega) (by omega)
    have ep : mgA (msI t 45 0) 8 (nI (zp v i j)) = t.2 8 (zp v i j) := Ag_A (hg 0) (by decide) (by omega)
    have es : mgA (msI t 45 0) 13 (nI v) = t.2 13 v := Ag_A (hg 0) (by decide) (by omega)
    have ec : (nI v).toNatClampNeg = v := nI_clamp (by omega)
    refine ⟨q3.1, q3.1, fun _ => ne_so hA.2.1, fun _ => by rw [oG_so hA.2.1]; exact hB.1, fun _ => vp_nI (n := 4) hv (by decide), fun x hx => ?_⟩
    intro _ _ x1 hx1
    subst hx1
    refine ⟨fun _ => hd, fun x2 hx2 => ?_⟩
    rw [if_pos ⟨hz, hz2⟩] at hx2
    subst hx2
    refine i_go0 hz one_ne one_ne ⟨fun h9 => absurd h9 one_ne, fun _ => ⟨?_, fun x6 hx6 => ⟨fun _ => vp_nI (n := 4) hv (by decide), fun x7 hx7 => ?_⟩⟩⟩
    · rw [pl_nI hv]
      exact vp_nI (n := 1536) hp (by decide)
    rw [pl_nI hv, ep] at hx6
    rw [es] at hx7
    have e : x7 = x := by
      rw [hx7, hx]
      unfold v_X0_isNote
      rw [oG_so hA.2.1, ec, hS.1 v hv, q3.2.1, hx6, p1, nI_isNote p2]
      by_cases e0 : aN (t.2 8 (zp v i j)) = 0
      · rw [e0, if_pos rfl, if_pos rfl]
        exact if_pos rfl
      · rw [if_neg (nI_ne0 (by omega) (by omega)), if_neg e0, if_neg one_ne]
    subst e
    exact ⟨thr_same t 0, fun _ => rfl, hn (szC S) (nsC S) _ (Nat.le_succ _) (Nat.le_add_right _ _) (hg 0)⟩
  · refine Or.inl ⟨rfl, fun hz1 hz2 x1 hx1 => ?_⟩
    subst hx1
    refine ⟨fun h9 => absurd hz h9, fun x2 hx2 => i_go1 hz ⟨fun _ => ?_, fun h9 => absurd rfl h9⟩⟩
    exact ⟨thr_same t 1, fun z => absurd z (by decide), hn sz ns _ hz1 hz2 (hg 1)⟩
  · refine Or.inr ⟨rfl, fun hz3 hz4 x1 hx1 => ?_⟩
    subst hx1
    refine ⟨fun _ => hd, fun x2 hx2 => i_go2 hz ?_ ⟨fun _ => ?_, fun h9 => absurd rfl h9⟩⟩
    · rw [if_neg (fun z => z.2 hz2)] at hx2
      exact hx2
    exact ⟨thr_same t 2, fun z => absurd z (by decide), hn sz ns _ hz3 hz4 (hg 2)⟩
/-- phrases that are there -/
def zPh (A : MS) : Nat → Int32
  | 0 => 0
  | k + 1 => zPh A k + (if A.2 20 k = 0 then 1 else 0)
theorem cc_ph {S : CS} {A : MS} (h : rP S A so) {k : Nat} (hk : k < npS S so) : lIn S 193 so (nI k) ∧ lG S 193 so (nI k) = phL S so k ∧ rPk S A so k := by
  have h1 := h.1
  exact ⟨cc_in (N := npS S so) rfl hk (by omega), cc_lG (by omega), h.2.2.2.1 k hk⟩
theorem si_phrases (hI : Iw lb o so po I) : Si_phrases lb o I := by
  intro n S t h
  obtain ⟨hA, hr, hn⟩ := hI n S t h
  have hB := hA.2.2.2.2.1
  have hP := hA.2.2.2.2.2.2.1
  have h20 := hP.1
  have e14 : mgI t 14 = nI (npS S so) := hP.2.1
  refine ⟨(szC S + 1, nsC S + 6), ⟨hr, ⟨Nat.le_succ _, Nat.le_add_right _ _⟩⟩, hA.1, ne_so hA.2.1, by rw [oG_so hA.2.1]; exact hB.1, ?_⟩
  rw [oG_so hA.2.1]
  refine lp_seq (fun k => (zPh t k, nI k)) (npS S so) ?_ ?_ 0 (Nat.zero_le _)
  · intro k hk K hK
    obtain ⟨q1, q2, q3⟩ := cc_ph hP hk
    refine ⟨hB.1, fun h9 => absurd h9 (nI_ge (b := npS S so) (a := k) hk (by omega)), fun _ => ⟨q1, by rw [q2]; exact q3.1, fun x4 hx4 x5 hx5 => ?_⟩⟩
    dsimp only at hx4 hx5 ⊢
    rw [q2, q3.2.2.2.2.1] at hx4
    rw [hx5, hx4, nI_1]
    exact hK
  · intro K
    refine ⟨hB.1, fun _ => ?_, fun h9 => absurd (nI_le (Nat.le_refl (npS S so)) (by omega)) h9⟩
    intro _ _
    refine lp_seq (fun k => (zPh t k, nI k)) (npS S so) ?_ ?_ 0 (Nat.zero_le _)
    · intro k hk K hK
      have e20 : mgA t 20 (nI k) = t.2 20 k := Ag_A (Ag_rfl t) (by decide) (by omega)
      refine ⟨fun h9 => ?_, fun _ => ⟨vp_nI (n := 20) (by omega) (by decide), fun x4 hx4 x5 hx5 => ?_⟩⟩
      · rw [e14] at h9
        exact absurd h9 (nI_ge hk (by omega))
      dsimp only at hx4 hx5 ⊢
      rw [e20] at hx4
      rw [hx5, hx4, nI_1]
      exact hK
    · intro K
      refine ⟨fun _ => i_tells ⟨rfl, hn (szC S) (nsC S) _ (Nat.le_succ _) (Nat.le_add_right _ _) (Ag_msI (Ag_rfl t) (by decide))⟩, fun h9 => absurd ?_ h9⟩
      rw [e14]
      exact nI_le (Nat.le_refl (npS S so)) (by omega)
end CF
