/-! MUTATORS OF EVENTS: marks, ties, pitches -/
section ME
variable {S S1 : CS} {t A1 : MS} {o so po : Nat}
theorem rA_evt (hA : rA S t o so po) {v i j : Nat} (hv : v < 4) (hi : i < zN t) (hj : j < zE t v i) {x8 x11 x12 : Int32} (hk : kdC S1 = kdC S) (hR : fR S1 = fR S) (hQ : fQ S1 = fQ S) (hL : fL S1 = fL S) (hC : fC S1 = fC S) (hG : Eqf fOt S S1) (hI : ∀ f, f ≠ 50 → f ≠ 51 → f ≠ 52 → f ≠ 199 → fI S1 f = fI S f)
    (h50 : ∀ q, fI S1 50 q = if q = evL S so v i j then x8 else fI S 50 q) (h52 : ∀ q, fI S1 52 q = if q = evL S so v i j then x11 else fI S 52 q) (h51 : ∀ q, fI S1 51 q = if q = evL S so v i j then x12 else fI S 51 q)
    (h1 : ∀ k, k < 24 → A1.1 k = t.1 k) (h2 : ∀ k, k ≠ 8 → k ≠ 11 → k ≠ 12 → A1.2 k = t.2 k)
    (h8 : ∀ q, A1.2 8 q = if q = zp v i j then x8 else t.2 8 q) (h11 : ∀ q, A1.2 11 q = if q = zp v i j then x11 else t.2 11 q) (h12 : ∀ q, A1.2 12 q = if q = zp v i j then x12 else t.2 12 q)
    (hx8 : x8 = nI (aN x8) ∧ aN x8 ≤ 127) (hx12 : gb x12) : rA S1 A1 o so po := by
  have hB := rA_B hA
  have hM := rA_M hA
  have g : ∀ k, k ≠ 8 → k ≠ 11 → k ≠ 12 → A1.2 k = t.2 k := h2
  refine rA_val hA hG ?_ ?_ (fun v2 i2 j2 _ _ _ => by unfold evL rwL mrL; rw [hL, hQ]) h1 (fun k _ hk => h2 k (by omega) (by omega) (by omega)) (zZ_k (rA_Z hA) (h1 0 (by decide)) (h2 6 (by decide) (by decide) (by decide)) (h2 7 (by decide) (by decide) (by decide)) (congrFun (h2 26 (by decide) (by decide) (by decide)) 0))
  · refine rB_upd hB hk (by rw [hQ]) (by rw [hL]) (by rw [hL]) (by rw [hC]) (by rw [hC]) (h1 0 (by decide)) (h2 6 (by decide) (by decide) (by decide)) (h2 9 (by decide) (by decide) (by decide)) (h2 10 (by decide) (by decide) (by decide)) (hI 48 (by decide) (by decide) (by decide) (by decide)) (hI 49 (by decide) (by decide) (by decide) (by decide)) (hI 177 (by decide) (by decide) (by decide) (by decide)) ?_ ?_ ?_
    · rw [hI 80 (by decide) (by decide) (by decide) (by decide), hI 81 (by decide) (by decide) (by decide) (by decide), hI 82 (by decide) (by decide) (by decide) (by decide), h2 1 (by decide) (by decide) (by decide), h2 2 (by decide) (by decide) (by decide), h2 3 (by decide) (by decide) (by decide)]
      exact rB_hb hB
    · rw [hI 178 (by decide) (by decide) (by decide) (by decide), h2 7 (by decide) (by decide) (by decide)]
      exact rB_hr hB
    · intro v2 i2 j2 hv2 hi2 hj2
      obtain ⟨c1, c2, c3⟩ := rB_he hB v2 i2 j2 hv2 hi2 hj2
      rw [h50, h51, h52, h8, h11, h12]
      by_cases e : zp v2 i2 j2 = zp v i j
      · have e9 := (e_ev hB hM hv2 hv hi2 hi hj2 hj).mpr e
        rw [if_pos e9, if_pos e9, if_pos e9, if_pos e, if_pos e, if_pos e]
        exact ⟨rfl, rfl, rfl⟩
      · have e9 : ¬ evL S so v2 i2 j2 = evL S so v i j := fun z => e ((e_ev hB hM hv2 hv hi2 hi hj2 hj).mp z)
        rw [if_neg e9, if_neg e9, if_neg e9, if_neg e, if_neg e, if_neg e]
        exact ⟨c1, c2, c3⟩
  · refine zM_upd hM (h1 0 (by decide)) (h2 6 (by decide) (by decide) (by decide)) (h2 9 (by decide) (by decide) (by decide)) (h2 10 (by decide) (by decide) (by decide)) ?_ ?_ ?_
    · unfold zB zU
      rw [h2 1 (by decide) (by decide) (by decide), h2 2 (by decide) (by decide) (by decide), h2 3 (by decide) (by decide) (by decide)]
      exact zM_hb hM
    · unfold zL zB zU
      rw [h2 1 (by decide) (by decide) (by decide), h2 2 (by decide) (by decide) (by decide), h2 7 (by decide) (by decide) (by decide)]
      exact zM_hr hM
    · intro v2 i2 j2 hv2 hi2 hj2
      obtain ⟨c1, c2, c3⟩ := zM_he hM v2 i2 j2 hv2 hi2 hj2
      rw [h8, h12]
      by_cases e : zp v2 i2 j2 = zp v i j
      · rw [if_pos e, if_pos e]
        exact ⟨hx8.1, hx8.2, hx12⟩
      · rw [if_neg e, if_neg e]
        exact ⟨c1, c2, c3⟩
theorem if_at {α β : Type} {f : α → β} {a q : α} {x : β} [h : Decidable (q = a)] (hx : x = f a) : (if q = a then x else f q) = f q := by
  by_cases e : q = a
  · rw [if_pos e, hx, e]
  · rw [if_neg e]
theorem wr_eq {x a b : Int32} : v_X9_isPitchOrRest a b = v_isWritten x a b := by
  unfold v_X9_isPitchOrRest v_isWritten v_in
  by_cases e : ¬ a + b < 1 ∧ ¬ 127 < a + b
  · rw [if_pos (Or.inr e), if_pos e, if_pos (Or.inr one_ne)]
  · rw [if_neg e]
    by_cases e2 : a = 0
    · rw [if_pos (Or.inl e2), if_pos (Or.inl e2)]
    · rw [if_neg (fun z => z.elim e2 e), if_neg (fun z => z.elim e2 (fun z => z rfl))]
theorem wr_c (hA : rA S t o so po) {v : Nat} (hv : v < 4) {a x : Int32} : d_X9_canBeWritten so (nI v) a S ∧ v_X9_canBeWritten so (nI v) a S = v_isWritten x a (t.2 13 v) := by
  refine ⟨⟨(rA_B hA).1, vp_nI (n := 4) hv (by decide)⟩, ?_⟩
  unfold v_X9_canBeWritten
  rw [nI_clamp (by omega), (rA_S hA).1 v hv]
  exact wr_eq
end ME
section MF
variable {lb : Nat × Nat} {o so po : Nat} {I : Nat → CS → MS → Prop}
end MF
