/-! CALLS OF THE PLAYING -/
/-- what the playing must be for a call -/
def Pk (S : CS) (A : MS) (so po : Nat) (B : Nat × Nat) : Prop := rowOk S po ∧ capOk S po ∧ (fI S 150 po = fI S 199 so → PlayOK A S po) ∧ (szC S ≤ B.1 ∧ nsC S ≤ B.2) ∧ (¬ fI S 150 po = fI S 199 so → bud S po (zTo A (zPl A (zN A))) B)
/-- what it is when it was renewed -/
def Rn (S S' : CS) (A : MS) (o so po : Nat) (B : Nat × Nat) : Prop := Eqf fRn S S' ∧ rA S' A o so po ∧ PlayOK A S' po ∧ fI S' 150 po = fI S 199 so ∧ rowOk S' po ∧ (fI S 150 po = fI S 199 so → S' = S) ∧ (¬ fI S 150 po = fI S 199 so → alc S S' po (zTo A (zPl A (zN A)))) ∧ szC S' ≤ B.1 ∧ nsC S' ≤ B.2
section PC
variable {A : MS} {S S' : CS} {o so po : Nat} {B0 B : Nat × Nat} {X : String → CS → Prop}
theorem cc_ren (hA : rA S A o so po) (hP : Pk S A so po B0) (h1 : B0.1 ≤ B.1) (h2 : B0.2 ≤ B.2) {Q : CS → Prop} (hQ : ∀ S', Rn S S' A o so po B0 → Q S') : ((fR S 225 o) ≠ none) ∧ ((fR S 224 o) ≠ none) ∧ (kdC S (oG (fR S 225 o)) = 9) ∧ w_X6_renew B (oG (fR S 225 o)) (oG (fR S 224 o)) S Q X := by
  have ep : oG (fR S 225 o) = po := by rw [rA_p hA]; rfl
  have es : oG (fR S 224 o) = so := by rw [rA_s hA]; rfl
  obtain ⟨p1, p2, p3, p5, p4⟩ := hP
  rw [ep, es]
  refine ⟨ne_so (rA_p hA), ne_so (rA_s hA), rA_kp hA, cc_renew (rA_M hA) (rA_B hA) (rA_T hA) (rA_kp hA) p1 p2 (fun z => ⟨Nat.le_trans (p4 z).1 h1, Nat.le_trans (p4 z).2 h2⟩) p3 (fun S' g1 g2 g3 g4 g5 g6 => hQ S' ⟨g1, rA_c hA (Eqf_sub (fun f z => by unfold fTo at z; unfold fRn; omega) g1) (Ag_rfl A), g2, g3, g4, g5, g6, ?_⟩)⟩
  by_cases c : fI S 150 po = fI S 199 so
  · rw [g5 c]
    exact p5
  · obtain ⟨b1, b2⟩ := p4 c
    obtain ⟨d, -, d2, -, d4, d5⟩ := g6 c
    have e : max (fL S 148 po).length (zTo A (zPl A (zN A))) - (fL S 148 po).length = d := by omega
    rw [e] at b1 b2
    exact ⟨Nat.le_trans d4 b1, Nat.le_trans d5 b2⟩
theorem cc_played (hA : rA S A o so po) (hP : Pk S A so po B0) (h1 : B0.1 ≤ B.1) (h2 : B0.2 ≤ B.2) {Q : Nat → CS → Prop} (hQ : ∀ S', Rn S S' A o so po B0 → Q po S') : w_X11_played B o S Q X := by
  obtain ⟨r1, r2, r3, r4⟩ := cc_ren (X := X) (B := B) hA hP h1 h2 (Q := fun t5 => ((fR t5 225 o) ≠ none) ∧ Q (oG (fR t5 225 o)) t5) (fun S' h => ⟨ne_so (rA_p h.2.1), by rw [rA_p h.2.1]; exact hQ S' h⟩)
  exact ⟨rA_k hA, r1, r2, r3, r4⟩
end PC
section PS
variable {lb : Nat × Nat} {o so po : Nat} {I : Nat → CS → MS → Prop}
end PS
