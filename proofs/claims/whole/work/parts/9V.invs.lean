/-! THE INVARIANT SERVES THE CALLS THAT ARE DONE -/
section IV
variable {b lb : Nat × Nat} {o so po : Nat}
theorem Iv_rs (hb : b.1 + 10000 ≤ lb.1 ∧ b.2 + 42000 ≤ lb.2) : Si_rs lb o (Iv b o so po) := by
  rintro n S t ns ⟨A, g, h1, r1, r2⟩ hns
  exact ⟨A, g, Jo_rsz h1, r1, by show ns + 2000 * n ≤ b.2 + 5 * (fL S 148 po).length + 4 * fC S 148 po; omega⟩
theorem Iv_kd : Si_kd lb o (Iv b o so po) := by
  rintro n S t ⟨A, g, h1, -⟩
  exact rA_k h1.1
theorem Iv_dn : Si_dn lb o (Iv b o so po) := by
  rintro n S t ⟨A, g, h1, r1, r2⟩
  exact ⟨A, g, Jo_dn h1 (Nat.le_succ n), by omega, by omega⟩
theorem Iv_m (hb : b.1 + 10000 ≤ lb.1 ∧ b.2 + 42000 ≤ lb.2) : Im lb o so po (Iv b o so po) := by
  rintro n S t ⟨A, g, h1, hr⟩
  refine ⟨rA_c h1.1 Eqf_rfl g, Jr_lb hb h1.2.1.2 hr, fun sz ns t' z1 z2 g2 => ⟨A, Ag_trans g g2, Jo_rsz (Jo_dn h1 (Nat.le_succ n)), Jr_rs hr z1 z2⟩, fun S' t' hA he hE z1 z2 => ⟨t', Ag_rfl t', ?_, ?_⟩⟩
  · have h1' : Jo o so po (n + 1) 4 S A := h1
    exact Jo_told h1' hA he hE
  · have kp : kdC S po ≠ 0 := by rw [rA_kp h1.1]; decide
    have eL : fL S' 148 po = fL S 148 po := ((hE po kp).2.2 148 (by unfold fKp; omega)).2.2.2.2.1
    have eC : fC S' 148 po = fC S 148 po := ((hE po kp).2.2 148 (by unfold fKp; omega)).2.2.2.2.2
    obtain ⟨r1, r2⟩ := hr
    unfold Jr
    rw [eL, eC]
    exact ⟨by omega, by omega⟩
/-- the room that a call has, when the playing is renewed -/
def bX (S : CS) (A : MS) (so po : Nat) : Nat × Nat := if fI S 150 po = fI S 199 so then (szC S, nsC S) else (szC S + (max (fL S 148 po).length (zTo A (zPl A (zN A))) - (fL S 148 po).length) + (ck (fC S 148 po) (fL S 148 po).length (max (fL S 148 po).length (zTo A (zPl A (zN A))) - (fL S 148 po).length) - fC S 148 po), nsC S + 5 * (max (fL S 148 po).length (zTo A (zPl A (zN A))) - (fL S 148 po).length) + 4 * (ck (fC S 148 po) (fL S 148 po).length (max (fL S 148 po).length (zTo A (zPl A (zN A))) - (fL S 148 po).length) - fC S 148 po))
theorem bX_1 {S : CS} {A : MS} (h : fI S 150 po = fI S 199 so) : bX S A so po = (szC S, nsC S) := if_pos h
theorem bX_0 {S : CS} {A : MS} (h : ¬ fI S 150 po = fI S 199 so) : bX S A so po = (szC S + (max (fL S 148 po).length (zTo A (zPl A (zN A))) - (fL S 148 po).length) + (ck (fC S 148 po) (fL S 148 po).length (max (fL S 148 po).length (zTo A (zPl A (zN A))) - (fL S 148 po).length) - fC S 148 po), nsC S + 5 * (max (fL S 148 po).length (zTo A (zPl A (zN A))) - (fL S 148 po).length) + 4 * (ck (fC S 148 po) (fL S 148 po).length (max (fL S 148 po).length (zTo A (zPl A (zN A))) - (fL S 148 po).length) - fC S 148 po)) := if_neg h
theorem bX_g {S : CS} {A A' : MS} (g : Ag A A') : bX S A' so po = bX S A so po := by
  unfold bX
  rw [zN_g g, zPl_g g, zTo_g g]
theorem bX_ge {S : CS} {A : MS} : szC S ≤ (bX S A so po).1 ∧ nsC S ≤ (bX S A so po).2 := by
  by_cases c : fI S 150 po = fI S 199 so
  · rw [bX_1 c]
    exact ⟨Nat.le_refl _, Nat.le_refl _⟩
  · rw [bX_0 c]
    exact ⟨by dsimp only; omega, by dsimp only; omega⟩
/-- what is beyond the room at first stays in the bounds -/
theorem bX_lb {n w : Nat} {S : CS} {A : MS} (hb : b.1 + 10000 ≤ lb.1 ∧ b.2 + 42000 ≤ lb.2) (h : Jo o so po n w S A) (hr : Jr b (n + 1) S po) : (bX S A so po).1 + 100 ≤ lb.1 ∧ (bX S A so po).2 + 2000 ≤ lb.2 := by
  have hc := h.2.1.2
  by_cases c : fI S 150 po = fI S 199 so
  · rw [bX_1 c]
    exact Jr_lb hb hc hr
  · rw [bX_0 c]
    have w1 := rA_M h.1
    have h48 := zPl_len48 w1 (rA_T h.1).2.1 (Nat.le_refl _)
    have hL : ∀ x, x ∈ zPl A (zN A) → x < zN A := zPl_lt w1 (rA_T h.1).2.1 (Nat.le_refl _)
    have hTo := zTo_le w1 hL h48
    obtain ⟨c1, c2, c3⟩ := hc
    obtain ⟨r1, r2⟩ := hr
    obtain ⟨k1, k2, k3⟩ := ck_ok c1 c2 (max (fL S 148 po).length (zTo A (zPl A (zN A))) - (fL S 148 po).length)
    refine ⟨?_, ?_⟩
    · dsimp only
      omega
    · exact lb_3 hb.2 k2 k3 (by omega) r2
theorem bX_Pk {n w : Nat} {S : CS} {A : MS} (h : Jo o so po n w S A) : Pk S A so po (bX S A so po) := by
  obtain ⟨h1, ⟨h2, h3⟩, -, h5, -⟩ := h
  refine ⟨h2, h3, h5, bX_ge, fun c => ?_⟩
  rw [bX_0 c]
  exact ⟨Nat.le_refl _, Nat.le_refl _⟩
/-- how the row of sounds grew -/
def sG (S S' : CS) (A : MS) (so po : Nat) : Prop := (fI S 150 po = fI S 199 so → fL S' 148 po = fL S 148 po ∧ fC S' 148 po = fC S 148 po) ∧ (¬ fI S 150 po = fI S 199 so → ∃ d, (fL S' 148 po).length = (fL S 148 po).length + d ∧ (fL S 148 po).length + d = max (fL S 148 po).length (zTo A (zPl A (zN A))) ∧ fC S' 148 po = ck (fC S 148 po) (fL S 148 po).length d)
theorem sG_Rn {S S' : CS} {A : MS} {B : Nat × Nat} (hR : Rn S S' A o so po B) : sG S S' A so po := by
  obtain ⟨-, -, -, -, -, r6, r7, -, -⟩ := hR
  refine ⟨fun c => by rw [r6 c]; exact ⟨rfl, rfl⟩, fun c => ?_⟩
  obtain ⟨d, d1, d2, d3, -, -⟩ := r7 c
  exact ⟨d, d1, d2, d3⟩
/-- the room behind a renewal -/
theorem bX_Jr {n : Nat} {S S' : CS} {A : MS} (hc : capOk S po) (hr : Jr b (n + 1) S po) (hR : sG S S' A so po) {sz ns : Nat} (z1 : sz ≤ (bX S A so po).1 + 100) (z2 : ns ≤ (bX S A so po).2 + 2000) : Jr b n (rsz S' sz ns) po := by
  obtain ⟨r6, r7⟩ := hR
  obtain ⟨q1, q2⟩ := hr
  by_cases c : fI S 150 po = fI S 199 so
  · rw [bX_1 c] at z1 z2
    dsimp only at z1 z2
    obtain ⟨d1, d2⟩ := r6 c
    refine ⟨?_, ?_⟩
    · show sz + 100 * n ≤ b.1 + (fL S' 148 po).length + fC S' 148 po
      rw [d1, d2]
      omega
    · show ns + 2000 * n ≤ b.2 + 5 * (fL S' 148 po).length + 4 * fC S' 148 po
      rw [d1, d2]
      omega
  · rw [bX_0 c] at z1 z2
    obtain ⟨d, d1, d2, d3⟩ := r7 c
    obtain ⟨c1, c2, c3⟩ := hc
    obtain ⟨k1, k2, k3⟩ := ck_ok c1 c2 d
    have ed : max (fL S 148 po).length (zTo A (zPl A (zN A))) - (fL S 148 po).length = d := by omega
    rw [ed] at z1 z2
    dsimp only at z1 z2
    refine ⟨?_, ?_⟩
    · show sz + 100 * n ≤ b.1 + (fL S' 148 po).length + fC S' 148 po
      rw [d1, d3]
      omega
    · show ns + 2000 * n ≤ b.2 + 5 * (fL S' 148 po).length + 4 * fC S' 148 po
      rw [d1, d3]
      omega
theorem Iv_p (hb : b.1 + 10000 ≤ lb.1 ∧ b.2 + 42000 ≤ lb.2) : Ip lb o so po (Iv b o so po) := by
  rintro n S t ⟨A, g, h1, hr⟩
  have h1n : Jo o so po n 4 S A := Jo_dn h1 (Nat.le_succ n)
  refine ⟨rA_c h1.1 Eqf_rfl g, bX S A so po, bX_lb hb h1n hr, ?_, fun sz ns t' z1 z2 g2 => ⟨A, Ag_trans g g2, Jo_rsz h1n, Jr_rs hr z1 z2⟩, fun S' sz ns t' hR z1 z2 g2 => ⟨A, Ag_trans g g2, ?_, ?_⟩⟩
  · obtain ⟨p1, p2, p3, p4, p5⟩ := bX_Pk h1n
    exact ⟨p1, p2, fun z => PlayOK_g g (p3 z), p4, fun z => by rw [zN_g g, zPl_g g, zTo_g g]; exact p5 z⟩
  · obtain ⟨q1, q2, q3, q4, q5, q6, q7, q8⟩ := hR
    rw [zN_g g, zPl_g g, zTo_g g] at q7
    exact Jo_rsz (Jo_Rn h1n ⟨q1, rA_c q2 Eqf_rfl (Ag_sym g), PlayOK_g (Ag_sym g) q3, q4, q5, q6, q7, q8⟩)
  · obtain ⟨q1, q2, q3, q4, q5, q6, q7, q8⟩ := hR
    rw [zN_g g, zPl_g g, zTo_g g] at q7
    exact bX_Jr h1.2.1.2 hr (sG_Rn (B := bX S A so po) ⟨q1, rA_c q2 Eqf_rfl (Ag_sym g), PlayOK_g (Ag_sym g) q3, q4, q5, q6, q7, q8⟩) z1 z2
end IV
