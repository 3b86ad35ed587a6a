/-! MUTATORS: tempo, marks, ties, pitches, turns, transpositions, paper -/
section MU
variable {S S' : CS} {A A' t : MS} {o so po : Nat}
theorem zM_upd (w : zM A) (h0 : A'.1 0 = A.1 0) (h6 : A'.2 6 = A.2 6) (h9 : A'.2 9 = A.2 9) (h10 : A'.2 10 = A.2 10)
    (hb : ∀ i, i < zN A → (A'.2 1 i = nI (zB A' i) ∧ 1 ≤ zB A' i ∧ zB A' i ≤ 9) ∧ (A'.2 2 i = nI (zU A' i) ∧ (zU A' i = 2 ∨ zU A' i = 4 ∨ zU A' i = 8)) ∧ (A'.2 3 i = -1 ∨ (A'.2 3 i = nI (aN (A'.2 3 i)) ∧ 30 ≤ aN (A'.2 3 i) ∧ aN (A'.2 3 i) ≤ 240)))
    (hr : ∀ v i, v < 4 → i < zN A → gb (A'.2 7 (24 * v + i)) ∧ zS A v i (zE A v i) ≤ zL A' i)
    (he : ∀ v i j, v < 4 → i < zN A → j < zE A v i → A'.2 8 (zp v i j) = nI (aN (A'.2 8 (zp v i j))) ∧ aN (A'.2 8 (zp v i j)) ≤ 127 ∧ gb (A'.2 12 (zp v i j))) : zM A' := by
  have en : zN A' = zN A := by unfold zN; rw [h0]
  have ee : zE A' = zE A := by funext v i; unfold zE; rw [h6]
  unfold zM
  rw [en, h0]
  refine ⟨w.1, w.2.1, fun i hi => ?_⟩
  obtain ⟨b1, b2, b3⟩ := hb i hi
  refine ⟨b1, b2, b3, fun v hv => ?_⟩
  obtain ⟨r1, r2⟩ := hr v i hv hi
  obtain ⟨q1, q2, -, -, q5⟩ := z_r w hi hv
  unfold zMr
  rw [ee, h6, zS_c h9 h10]
  refine ⟨q1, q2, r1, r2, fun j hj => ?_⟩
  obtain ⟨k1, k2, k3, -, -, k6, k7, -⟩ := q5 j hj
  obtain ⟨s1, s2, s3⟩ := he v i j hv hi hj
  unfold zMe
  rw [h9, h10, zKp_c h9 h10]
  exact ⟨k1, k2, k3, s1, s2, k6, k7, s3⟩
theorem zM_hb (w : zM A) : ∀ i, i < zN A → (A.2 1 i = nI (zB A i) ∧ 1 ≤ zB A i ∧ zB A i ≤ 9) ∧ (A.2 2 i = nI (zU A i) ∧ (zU A i = 2 ∨ zU A i = 4 ∨ zU A i = 8)) ∧ (A.2 3 i = -1 ∨ (A.2 3 i = nI (aN (A.2 3 i)) ∧ 30 ≤ aN (A.2 3 i) ∧ aN (A.2 3 i) ≤ 240)) := by
  intro i hi
  obtain ⟨b1, b2, b3, -⟩ := z_b w hi
  exact ⟨b1, b2, b3⟩
theorem zM_hr (w : zM A) : ∀ v i, v < 4 → i < zN A → gb (A.2 7 (24 * v + i)) ∧ zS A v i (zE A v i) ≤ zL A i := by
  intro v i hv hi
  obtain ⟨-, -, q3, q4, -⟩ := z_r w hi hv
  exact ⟨q3, q4⟩
theorem zM_he (w : zM A) : ∀ v i j, v < 4 → i < zN A → j < zE A v i → A.2 8 (zp v i j) = nI (aN (A.2 8 (zp v i j))) ∧ aN (A.2 8 (zp v i j)) ≤ 127 ∧ gb (A.2 12 (zp v i j)) := by
  intro v i j hv hi hj
  obtain ⟨-, -, -, k4, k5, -, -, k8⟩ := z_v w hi hv hj
  exact ⟨k4, k5, k8⟩
theorem rm_1 : szC S + 1 ≤ ((szC S + 100, nsC S + 2000) : Nat × Nat).1 ∧ nsC S + 6 ≤ ((szC S + 100, nsC S + 2000) : Nat × Nat).2 := ⟨Nat.add_le_add_left (by decide) _, Nat.add_le_add_left (by decide) _⟩
theorem ag45 (t : MS) (x : Int32) : Ag t (msI t 45 x) := Ag_msI (f := 45) (v := x) (Ag_rfl t) (by decide)
theorem e_mr (h : rB S A so) (w : zM A) {i i2 : Nat} (hi : i < nbS S so) (hi2 : i2 < zN A) : mrL S so i = mrL S so i2 ↔ i = i2 := ⟨fun z => h.2.2.2.2.2.1 i i2 hi (by rw [cc_n h w]; exact hi2) z, fun z => by rw [z]⟩
theorem e_rw (h : rB S A so) (w : zM A) {v v2 i i2 : Nat} (hv : v < 4) (hv2 : v2 < 4) (hi : i < nbS S so) (hi2 : i2 < zN A) : rwL S so v i = rwL S so v2 i2 ↔ 24 * v + i = 24 * v2 + i2 := by
  have hn := cc_n h w
  have hn2 := w.2.1
  refine ⟨fun z => ?_, fun z => ?_⟩
  · obtain ⟨rfl, rfl⟩ := h.2.2.2.2.2.2.1 v i v2 i2 hi (by omega) hv hv2 z
    rfl
  · have e1 : v = v2 := by omega
    have e2 : i = i2 := by omega
    rw [e1, e2]
theorem e_ev (h : rB S A so) (w : zM A) {v v2 i i2 j j2 : Nat} (hv : v < 4) (hv2 : v2 < 4) (hi : i < nbS S so) (hi2 : i2 < zN A) (hj : j < neS S so v i) (hj2 : j2 < zE A v2 i2) : evL S so v i j = evL S so v2 i2 j2 ↔ zp v i j = zp v2 i2 j2 := by
  have hn := cc_n h w
  have hn2 := w.2.1
  have he := (h.2.2.2.2.1 i hi).2.2.2.2.2.2 v hv
  have he2 := (z_r w hi2 hv2).1
  have he3 := he.2.2.1
  refine ⟨fun z => ?_, fun z => ?_⟩
  · obtain ⟨rfl, rfl, rfl⟩ := h.2.2.2.2.2.2.2 v i j v2 i2 j2 hi (by omega) hv hv2 hj (by rw [cc_e h w hi2 hv2]; exact hj2) z
    rfl
  · unfold zp at z
    have e1 : v = v2 := by omega
    have e2 : i = i2 := by omega
    have e3 : j = j2 := by omega
    rw [e1, e2, e3]
end MU
section MV
variable {lb : Nat × Nat} {o so po : Nat} {I : Nat → CS → MS → Prop}
theorem nf (P : Nat → Prop) (f o : Nat) (S : CS) (h : ¬ P f) : ¬ P f ∨ kdC S o = 0 := Or.inl h
end MV
