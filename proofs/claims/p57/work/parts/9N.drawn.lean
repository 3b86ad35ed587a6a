/-! WHAT CAN BE DRAWN -/
def zDr (A : MS) (v : Nat) : Prop := 0 < zN A ∧ ∀ i, i < zN A → zRight A v i
/-- lines of a page at most; the choices of the pages of a part -/
def dRm (A : MS) : Nat := aN (A.1 22)
def dPg (A : MS) (v : Nat) : Nat → Nat := (gT (dE A v) (dRm A) (dL A v) (dL A v)).2
section DN
variable {A t : MS} {S : CS} {so v : Nat}
theorem dE_le : ∀ k, dE A v k ≤ 520000 := fun k => by
  unfold dE
  have e1 : (if aN (A.1 23) ≤ dR A v k then 0 else 20000) ≤ 20000 := by
    by_cases c : aN (A.1 23) ≤ dR A v k
    · rw [if_pos c]; omega
    · rw [if_neg c]; omega
  have e2 : (if zFb A v (dB A v k - 1) = true then 500000 else 0) ≤ 500000 := by
    by_cases c : zFb A v (dB A v k - 1) = true
    · rw [if_pos c]; omega
    · rw [if_neg c]; omega
  omega
theorem dRm_ok (hS : zMs A) : 1 ≤ dRm A ∧ dRm A ≤ 6 ∧ A.1 22 = nI (dRm A) := by
  obtain ⟨-, ⟨x, x1, x2, x3⟩, -⟩ := hS
  unfold dRm
  rw [x3, aN_nI (by omega)]
  exact ⟨x1, x2, rfl⟩
theorem cc_canDraw (hB : rB S A so) (w : zM A) (hv : v < 4) {B : Nat × Nat} {Q : Int32 → CS → Prop} {X : String → CS → Prop} (h1 : zDr A v → Q 1 S) (h0 : ¬ zDr A v → Q 0 S) : w_X9_canBeDrawn B so (nI v) S Q X := by
  have hn := w.2.1
  have el : (fL S 192 so).length = zN A := cc_n hB w
  refine lp_for (fun k z => z.1 = nI k ∧ z.2 = S ∧ ∀ i, i < k → zRight A v i) (zN A) ?_ ?_ 0 (Nat.zero_le _) (0, S) ⟨rfl, rfl, fun i hi => absurd hi (Nat.not_lt_zero _)⟩
  · intro k hk K z hz hK
    obtain ⟨z1, u⟩ := z
    obtain ⟨hz1, hu, hr⟩ := hz
    dsimp only at hz1 hu hr
    subst hz1
    subst hu
    unfold w_X9_canBeDrawn_L2
    dsimp only
    rw [el]
    refine ⟨hB.1, fun h9 => absurd h9 (nI_ge hk (by omega)), fun _ => cc_right hB w hk hv (fun hr2 => ⟨fun z => absurd z one_ne, fun _ => ?_⟩) (fun hr2 => ⟨fun _ => h0 (fun z => hr2 (z.2 k hk)), fun z => absurd rfl z⟩)⟩
    rw [nI_1]
    refine hK _ ⟨rfl, rfl, fun i hi => ?_⟩
    by_cases e : i = k
    · rw [e]; exact hr2
    · exact hr i (by omega)
  · intro K z hz
    obtain ⟨z1, u⟩ := z
    obtain ⟨hz1, hu, hr⟩ := hz
    dsimp only at hz1 hu hr
    subst hz1
    subst hu
    unfold w_X9_canBeDrawn_L2
    dsimp only
    rw [el]
    refine ⟨hB.1, fun _ => ⟨by omega, fun x3 hx3 => ?_⟩, fun h9 => absurd (nI_le (Nat.le_refl _) (by omega)) h9⟩
    by_cases c : zN A = 0
    · rw [if_pos c, if_neg one_ne] at hx3
      rw [hx3]
      exact ⟨Or.inl rfl, h0 (fun z => by have := z.1; omega)⟩
    · rw [if_neg c, if_pos rfl] at hx3
      rw [hx3]
      exact ⟨Or.inr rfl, h1 ⟨by omega, hr⟩⟩
/-- a part that was laid on pages, in the model -/
def dQ (A : MS) (v : Nat) (t : MS) : Prop := dM A v t ∧ (∀ k, 1 ≤ k → k < dL A v → t.2 44 k = nI (dE A v k)) ∧ pM t (dPg A v) (dL A v)
end DN
