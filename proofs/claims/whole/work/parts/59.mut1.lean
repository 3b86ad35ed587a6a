/-! MUTATORS: tempo, marks, ties, pitches, turns, transpositions, paper -/
section MU
variable {S S' : CS} {A A' t : MS} {o so po : Nat}
theorem zM_upd (w : zM A) (h0 : A'.1 0 = A.1 0) (h6 : A'.2 6 = A.2 6) (h9 : A'.2 9 = A.2 9) (h10 : A'.2 10 = A.2 10)
    (hb : ∀ i, i < zN A → (A'.2 1 i = nI (zB A' i) ∧ 1 ≤ zB A' i ∧ zB A' i ≤ 9) ∧ (A'.2 2 i = nI (zU A' i) ∧ (zU A' i = 2 ∨ zU A' i = 4 ∨ zU A' i = 8)) ∧ (A'.2 3 i = -1 ∨ (A'.2 3 i = nI (aN (A'.2 3 i)) ∧ 30 ≤ aN (A'.2 3 i) ∧ aN (A'.2 3 i) ≤ 240)))
    (hr : ∀ v i, v < 4 → i < zN A → gb (A'.2 7 (24 * v + i)) ∧ zS A v i (zE A v i) ≤ zL A' i)
    (he : ∀ v i j, v < 4 → i < zN A → j < zE A v i → A'.2 8 (zp v i j) = nI (aN (A'.2 8 (zp v i j))) ∧ aN (A'.2 8 (zp v i j)) ≤ 127 ∧ gb (A'.2 12 (zp v i j))) : zM A' := by
  have en : zN A' = zN A := by unfold zN; rw [h0]
  have ee : zE A' = zE A := by funext v i; unfold zE; rw [h6]
  unfold zM
  rw [en, h0]
  refine ⟨w.1, w.2.1, fun i hi => ?_⟩
  obtain ⟨b1, b2, b3⟩ := hb i hi
  refine ⟨b1, b2, b3, fun v hv => ?_⟩
  obtain ⟨r1, r2⟩ := hr v i hv hi
  obtain ⟨q1, q2, -, -, q5⟩ := z_r w hi hv
  unfold zMr
  rw [ee, h6, zS_c h9 h10]
  refine ⟨q1, q2, r1, r2, fun j hj => ?_⟩
  obtain ⟨k1, k2, k3, -, -, k6, k7, -⟩ := q5 j hj
  obtain ⟨s1, s2, s3⟩ := he v i j hv hi hj
  unfold zMe
  rw [h9, h10, zKp_c h9 h10]
  exact ⟨k1, k2, k3, s1, s2, k6, k7, s3⟩
theorem zM_hb (w : zM A) : ∀ i, i < zN A → (A.2 1 i = nI (zB A i) ∧ 1 ≤ zB A i ∧ zB A i ≤ 9) ∧ (A.2 2 i = nI (zU A i) ∧ (zU A i = 2 ∨ zU A i = 4 ∨ zU A i = 8)) ∧ (A.2 3 i = -1 ∨ (A.2 3 i = nI (aN (A.2 3 i)) ∧ 30 ≤ aN (A.2 3 i) ∧ aN (A.2 3 i) ≤ 240)) := by
  intro i hi
  obtain ⟨b1, b2, b3, -⟩ := z_b w hi
  exact ⟨b1, b2, b3⟩
theorem zM_hr (w : zM A) : ∀ v i, v < 4 → i < zN A → gb (A.2 7 (24 * v + i)) ∧ zS A v i (zE A v i) ≤ zL A i := by
  intro v i hv hi
  obtain ⟨-, -, q3, q4, -⟩ := z_r w hi hv
  exact ⟨q3, q4⟩
theorem zM_he (w : zM A) : ∀ v i j, v < 4 → i < zN A → j < zE A v i → A.2 8 (zp v i j) = nI (aN (A.2 8 (zp v i j))) ∧ aN (A.2 8 (zp v i j)) ≤ 127 ∧ gb (A.2 12 (zp v i j)) := by
  intro v i j hv hi hj
  obtain ⟨-, -, -, k4, k5, -, -, k8⟩ := z_v w hi hv hj
  exact ⟨k4, k5, k8⟩
theorem rm_1 : szC S + 1 ≤ ((szC S + 100, nsC S + 2000) : Nat × Nat).1 ∧ nsC S + 6 ≤ ((szC S + 100, nsC S + 2000) : Nat × Nat).2 := ⟨Nat.add_le_add_left (by decide) _, Nat.add_le_add_left (by decide) _⟩
theorem rm_0 {lb : Nat × Nat} (h : szC S + 100 ≤ lb.1 ∧ nsC S + 2000 ≤ lb.2) : sB lb (szC S + 100, nsC S + 2000) S := ⟨h, ⟨Nat.le_add_right _ _, Nat.le_add_right _ _⟩⟩
theorem ag45 (t : MS) (x : Int32) : Ag t (msI t 45 x) := Ag_msI (f := 45) (v := x) (Ag_rfl t) (by decide)
theorem e_mr (h : rB S A so) (w : zM A) {i i2 : Nat} (hi : i < nbS S so) (hi2 : i2 < zN A) : mrL S so i = mrL S so i2 ↔ i = i2 := ⟨fun z => h.2.2.2.2.2.1 i i2 hi (by rw [cc_n h w]; exact hi2) z, fun z => by rw [z]⟩
theorem e_rw (h : rB S A so) (w : zM A) {v v2 i i2 : Nat} (hv : v < 4) (hv2 : v2 < 4) (hi : i < nbS S so) (hi2 : i2 < zN A) : rwL S so v i = rwL S so v2 i2 ↔ 24 * v + i = 24 * v2 + i2 := by
  have hn := cc_n h w
  have hn2 := w.2.1
  refine ⟨fun z => ?_, fun z => ?_⟩
  · obtain ⟨rfl, rfl⟩ := h.2.2.2.2.2.2.1 v i v2 i2 hi (by omega) hv hv2 z
    rfl
  · have e1 : v = v2 := by omega
    have e2 : i = i2 := by omega
    rw [e1, e2]
theorem e_ev (h : rB S A so) (w : zM A) {v v2 i i2 j j2 : Nat} (hv : v < 4) (hv2 : v2 < 4) (hi : i < nbS S so) (hi2 : i2 < zN A) (hj : j < neS S so v i) (hj2 : j2 < zE A v2 i2) : evL S so v i j = evL S so v2 i2 j2 ↔ zp v i j = zp v2 i2 j2 := by
  have hn := cc_n h w
  have hn2 := w.2.1
  have he := (h.2.2.2.2.1 i hi).2.2.2.2.2.2 v hv
  have he2 := (z_r w hi2 hv2).1
  have he3 := he.2.2.1
  refine ⟨fun z => ?_, fun z => ?_⟩
  · obtain ⟨rfl, rfl, rfl⟩ := h.2.2.2.2.2.2.2 v i j v2 i2 j2 hi (by omega) hv hv2 hj (by rw [cc_e h w hi2 hv2]; exact hj2) z
    rfl
  · unfold zp at z
    have e1 : v = v2 := by omega
    have e2 : i = i2 := by omega
    have e3 : j = j2 := by omega
    rw [e1, e2, e3]
end MU
section MV
variable {lb : Nat × Nat} {o so po : Nat} {I : Nat → CS → MS → Prop}
theorem nf (P : Nat → Prop) (f o : Nat) (S : CS) (h : ¬ P f) : ¬ P f ∨ kdC S o = 0 := Or.inl h
theorem si_setTempo (hI : Im lb o so po I) : Si_setTempo lb o I := by
  intro n S t ov a1 a2 h
  obtain ⟨hA, hr, hn, hm⟩ := hI n S t h
  have hB := rA_B hA
  have hM := rA_M hA
  refine ⟨(szC S + 100, nsC S + 2000), rm_0 hr, hA.1, a_B hA rm_1 (fun i hi ei hz => ?_) (fun hz sz ns => ?_)⟩
  · subst ei
    obtain ⟨b1, b2, b3, b4⟩ := cc_bar hB hM hi
    have em : v_X9_measure so (nI i) S = mrL S so i := b3
    have hn24 := hM.2.1
    refine ⟨fun S' => S' = S ∧ (a2 = -1 ∨ ¬ v_in a2 30 240 = 0), ?_, fun e => ⟨rfl, Or.inl e⟩, fun e => a_reqRange rm_1 (fun z1 _ => ⟨rfl, Or.inr z1⟩) (fun z sz ns => ?_)⟩
    · intro S1 hJ
      obtain ⟨e1, hok⟩ := hJ
      rw [e1, oG_so hA.2.1, em]
      refine ⟨ne_so hA.2.1, b1, ⟨b1, b2, by rw [b3]; exact b4⟩, b4, fun x8 hx8 t9 ht9 => ?_⟩
      subst ht9
      refine i_ed hA.2.1 b1 ?_
      intro _ _ x1 hx1
      have h1 : ¬ x1 = 0 := by rw [hx1, if_pos hok]; exact one_ne
      refine i_go0 hz h1 one_ne ⟨fun h9 => absurd h9 one_ne, fun _ => ⟨vp_nI (n := 24) (by omega) (by decide), fun x4 hx4 => ⟨vp_nI (n := 24) (by omega) (by decide), fun t6 ht6 => ?_⟩⟩⟩
      subst ht6
      have e4 : x4 = x8 := by
        rw [hx4, hx8, Ag_A (ag45 t 0) (f := 3) (i := i) (by decide) (by omega)]
        exact (cc_told hB hM hi).1.symm
      have hi31 : i < 2147483648 := by omega
      refine ⟨thr_same t 0, fun _ => by rw [e4]; rfl, hm _ _ ?_ ?_ ?_ (Nat.le_add_right _ _) (Nat.le_add_right _ _)⟩
      · refine rA_val hA (Eqf_usI (Eqf_usI Eqf_rfl (Or.inl (by unfold fOt fP0 fT0 fS0; decide))) (Or.inl (by unfold fOt fP0 fT0 fS0; decide))) ?_ ?_ (fun _ _ _ _ _ _ => rfl) (fun k hk => n45 rfl (by omega)) (fun k _ hk => mA_ne (by omega)) (zZ_k (rA_Z hA) (n45 rfl (by decide)) (mA_ne (by decide)) (mA_ne (by decide)) (congrFun (mA_ne (by decide)) 0))
        · refine rB_upd hB rfl rfl rfl rfl rfl rfl (n45 rfl (by decide)) (mA_ne (by decide)) (mA_ne (by decide)) (mA_ne (by decide)) ?_ ?_ ?_ ?_ ?_ ?_
          · rw [fI_ne (by decide), fI_ne (by decide)]
          · rw [fI_ne (by decide), fI_ne (by decide)]
          · rw [fI_ne (by decide), fI_ne (by decide)]
          · intro k hk
            obtain ⟨c1, c2, c3, c4, c5⟩ := rB_hb hB k hk
            rw [fI_ne (f' := 80) (by decide), fI_ne (f' := 80) (by decide), fI_ne (f' := 81) (by decide), fI_ne (f' := 81) (by decide), fI_ne (f' := 82) (by decide), fI_at, mA_ne (f' := 1) (by decide), mA_ne (f' := 2) (by decide), mA_at hi31]
            refine ⟨c1, c2, ?_, c4, c5⟩
            by_cases e : k = i
            · rw [if_pos ((e_mr hB hM hk hi).mpr e), if_pos e]
            · rw [if_neg (fun z => e ((e_mr hB hM hk hi).mp z)), if_neg e]
              exact c3
          · rw [fI_ne (f' := 178) (by decide), fI_ne (f' := 178) (by decide), mA_ne (f' := 7) (by decide)]
            exact rB_hr hB
          · rw [fI_ne (f' := 50) (by decide), fI_ne (f' := 50) (by decide), fI_ne (f' := 51) (by decide), fI_ne (f' := 51) (by decide), fI_ne (f' := 52) (by decide), fI_ne (f' := 52) (by decide), mA_ne (f' := 8) (by decide), mA_ne (f' := 11) (by decide), mA_ne (f' := 12) (by decide)]
            exact rB_he hB
        · refine zM_upd hM (n45 rfl (by decide)) (mA_ne (by decide)) (mA_ne (by decide)) (mA_ne (by decide)) ?_ ?_ ?_
          · intro k hk
            obtain ⟨c1, c2, c3⟩ := zM_hb hM k hk
            unfold zB zU
            rw [mA_ne (f' := 1) (by decide), mA_ne (f' := 2) (by decide), mA_at hi31]
            refine ⟨c1, c2, ?_⟩
            by_cases e : k = i
            · rw [if_pos e]
              by_cases e9 : a2 = -1
              · exact Or.inl e9
              · rcases hok with hok | hok
                · exact Or.inl hok
                · obtain ⟨x, x1, x2, x3⟩ := r_in (a := a2) (x := 30) (y := 240) (by decide) (by decide) (fun z => hok (r_out.mp z))
                  refine Or.inr ?_
                  rw [x3, aN_nI (by omega)]
                  exact ⟨rfl, x1, x2⟩
            · rw [if_neg e]
              exact c3
          · unfold zL zB zU
            rw [mA_ne (f' := 1) (by decide), mA_ne (f' := 2) (by decide), mA_ne (f' := 7) (by decide)]
            exact zM_hr hM
          · rw [mA_ne (f' := 8) (by decide), mA_ne (f' := 12) (by decide)]
            exact zM_he hM
      · rw [ed_at, fI_ne (by decide)]
      · exact Eqf_usI (Eqf_usI Eqf_rfl (Or.inl (by unfold fKp; decide))) (Or.inl (by unfold fKp; decide))
    · refine Or.inr ⟨rfl, fun hz1 hz2 x1 hx1 => ?_⟩
      have h1 : x1 = 0 := by rw [hx1, if_neg (fun z9 => z9.elim (fun z9 => e z9) (fun z9 => z9 z))]
      refine i_go2 hz h1 ⟨fun _ => ?_, fun h9 => absurd rfl h9⟩
      exact ⟨thr_same t 2, fun z => absurd z (by decide), hn sz ns _ hz1 hz2 (ag45 t 2)⟩
  · refine Or.inl ⟨rfl, fun hz1 hz2 x1 hx1 => i_go1 hz ⟨fun _ => ?_, fun h9 => absurd rfl h9⟩⟩
    exact ⟨thr_same t 1, fun z => absurd z (by decide), hn sz ns _ hz1 hz2 (ag45 t 1)⟩
end MV
