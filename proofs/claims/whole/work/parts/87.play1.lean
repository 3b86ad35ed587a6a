/-! CALLS OF THE PLAYING -/
/-- what the playing must be for a call -/
def Pk (S : CS) (A : MS) (so po : Nat) (B : Nat × Nat) : Prop := rowOk S po ∧ capOk S po ∧ (fI S 150 po = fI S 199 so → PlayOK A S po) ∧ (szC S ≤ B.1 ∧ nsC S ≤ B.2) ∧ (¬ fI S 150 po = fI S 199 so → bud S po (zTo A (zPl A (zN A))) B)
/-- what it is when it was renewed -/
def Rn (S S' : CS) (A : MS) (o so po : Nat) (B : Nat × Nat) : Prop := Eqf fRn S S' ∧ rA S' A o so po ∧ PlayOK A S' po ∧ fI S' 150 po = fI S 199 so ∧ rowOk S' po ∧ (fI S 150 po = fI S 199 so → S' = S) ∧ (¬ fI S 150 po = fI S 199 so → alc S S' po (zTo A (zPl A (zN A)))) ∧ szC S' ≤ B.1 ∧ nsC S' ≤ B.2
def Ip (lb : Nat × Nat) (o so po : Nat) (I : Nat → CS → MS → Prop) : Prop := ∀ (n : Nat) (S : CS) (t : MS), I (n + 1) S t → rA S t o so po ∧ ∃ B : Nat × Nat, (B.1 + 100 ≤ lb.1 ∧ B.2 + 2000 ≤ lb.2) ∧ Pk S t so po B ∧ (∀ (sz ns : Nat) (t' : MS), sz ≤ szC S + 100 → ns ≤ nsC S + 2000 → Ag t t' → I n (rsz S sz ns) t') ∧ ∀ (S' : CS) (sz ns : Nat) (t' : MS), Rn S S' t o so po B → sz ≤ B.1 + 100 → ns ≤ B.2 + 2000 → Ag t t' → I n (rsz S' sz ns) t'
section PC
variable {A : MS} {S S' : CS} {o so po : Nat} {B0 B : Nat × Nat} {X : String → CS → Prop}
theorem cc_ren (hA : rA S A o so po) (hP : Pk S A so po B0) (h1 : B0.1 ≤ B.1) (h2 : B0.2 ≤ B.2) {Q : CS → Prop} (hQ : ∀ S', Rn S S' A o so po B0 → Q S') : ((fR S 225 o) ≠ none) ∧ ((fR S 224 o) ≠ none) ∧ (kdC S (oG (fR S 225 o)) = 9) ∧ w_X6_renew B (oG (fR S 225 o)) (oG (fR S 224 o)) S Q X := by
  have ep : oG (fR S 225 o) = po := by rw [rA_p hA]; rfl
  have es : oG (fR S 224 o) = so := by rw [rA_s hA]; rfl
  obtain ⟨p1, p2, p3, p5, p4⟩ := hP
  rw [ep, es]
  refine ⟨ne_so (rA_p hA), ne_so (rA_s hA), rA_kp hA, cc_renew (rA_M hA) (rA_B hA) (rA_T hA) (rA_kp hA) p1 p2 (fun z => ⟨Nat.le_trans (p4 z).1 h1, Nat.le_trans (p4 z).2 h2⟩) p3 (fun S' g1 g2 g3 g4 g5 g6 => hQ S' ⟨g1, rA_c hA (Eqf_sub (fun f z => by unfold fTo at z; unfold fRn; omega) g1) (Ag_rfl A), g2, g3, g4, g5, g6, ?_⟩)⟩
  by_cases c : fI S 150 po = fI S 199 so
  · rw [g5 c]
    exact p5
  · obtain ⟨b1, b2⟩ := p4 c
    obtain ⟨d, -, d2, -, d4, d5⟩ := g6 c
    have e : max (fL S 148 po).length (zTo A (zPl A (zN A))) - (fL S 148 po).length = d := by omega
    rw [e] at b1 b2
    exact ⟨Nat.le_trans d4 b1, Nat.le_trans d5 b2⟩
theorem cc_played (hA : rA S A o so po) (hP : Pk S A so po B0) (h1 : B0.1 ≤ B.1) (h2 : B0.2 ≤ B.2) {Q : Nat → CS → Prop} (hQ : ∀ S', Rn S S' A o so po B0 → Q po S') : w_X11_played B o S Q X := by
  obtain ⟨r1, r2, r3, r4⟩ := cc_ren (X := X) (B := B) hA hP h1 h2 (Q := fun t5 => ((fR t5 225 o) ≠ none) ∧ Q (oG (fR t5 225 o)) t5) (fun S' h => ⟨ne_so (rA_p h.2.1), by rw [rA_p h.2.1]; exact hQ S' h⟩)
  exact ⟨rA_k hA, r1, r2, r3, r4⟩
end PC
section PS
variable {lb : Nat × Nat} {o so po : Nat} {I : Nat → CS → MS → Prop}
theorem si_places (hI : Ip lb o so po I) : Si_places lb o I := by
  intro n S t h
  obtain ⟨hA, B, ⟨l1, l2⟩, hP, hw, hn⟩ := hI n S t h
  obtain ⟨l3, l4⟩ := hP.2.2.2.1
  refine ⟨(B.1 + 100, B.2 + 2000), ⟨⟨l1, l2⟩, ⟨Nat.le_add_right_of_le l3, Nat.le_add_right_of_le l4⟩⟩, rA_k hA, cc_played hA hP (Nat.le_add_right _ _) (Nat.le_add_right _ _) (fun S' hR => ⟨rA_kp hR.2.1, fun _ _ => ?_⟩)⟩
  refine mm_laysPlaces (rA_M hA) (rA_T hA).2.1 (rA_Z hA).1 (Ag_rfl t) (fun t' _ g p => ?_)
  intro t1 ht1
  rw [ht1]
  exact ⟨hR.2.2.1.1.1.trans p.1.symm, hn S' (szC S') (nsC S') _ hR (Nat.le_add_right_of_le hR.2.2.2.2.2.2.2.1) (Nat.le_add_right_of_le hR.2.2.2.2.2.2.2.2) (Ag_msI g (by decide))⟩
theorem si_playingTime (hI : Ip lb o so po I) : Si_playingTime lb o I := by
  intro n S t h
  obtain ⟨hA, B, ⟨l1, l2⟩, hP, hw, hn⟩ := hI n S t h
  obtain ⟨l3, l4⟩ := hP.2.2.2.1
  have h48 := zPl_len48 (rA_M hA) (rA_T hA).2.1 (Nat.le_refl _)
  refine ⟨(B.1 + 100, B.2 + 2000), ⟨⟨l1, l2⟩, ⟨Nat.le_add_right_of_le l3, Nat.le_add_right_of_le l4⟩⟩, rA_k hA, cc_played hA hP (Nat.le_add_right _ _) (Nat.le_add_right _ _) (fun S' hR => ⟨rA_kp hR.2.1, fun _ _ => ?_⟩)⟩
  refine mm_laysPlaces (rA_M hA) (rA_T hA).2.1 (rA_Z hA).1 (Ag_rfl t) (fun t' _ g p => ?_)
  have e : mgI t' 24 = nI (zPl t (zN t)).length := p.1
  rw [e]
  refine ⟨vp_nI (n := 49) (by omega) (by decide), ?_⟩
  have e26 : mgA t' 26 (nI (zPl t (zN t)).length) = nI (zSt t (zPl t (zN t)) (zPl t (zN t)).length) := by
    show t'.2 26 (nI _).toNatClampNeg = _
    rw [nI_clamp (by omega)]
    exact p.2.2 _ (Nat.le_refl _)
  rw [e26]
  intro t1 ht1
  rw [ht1]
  exact ⟨hR.2.2.1.1.2.2, hn S' (szC S') (nsC S') _ hR (Nat.le_add_right_of_le hR.2.2.2.2.2.2.2.1) (Nat.le_add_right_of_le hR.2.2.2.2.2.2.2.2) (Ag_msI g (by decide))⟩
theorem si_barAt (hI : Ip lb o so po I) : Si_barAt lb o I := by
  intro n S t ov a1 h
  obtain ⟨hA, B, ⟨l1, l2⟩, hP, hw, hn⟩ := hI n S t h
  obtain ⟨l3, l4⟩ := hP.2.2.2.1
  have h48 := zPl_len48 (rA_M hA) (rA_T hA).2.1 (Nat.le_refl _)
  refine ⟨(B.1 + 100, B.2 + 2000), ⟨⟨l1, l2⟩, ⟨Nat.le_add_right_of_le l3, Nat.le_add_right_of_le l4⟩⟩, rA_k hA, cc_played hA hP (Nat.le_add_right _ _) (Nat.le_add_right _ _) (fun S' hR => ⟨rA_kp hR.2.1, ?_⟩)⟩
  obtain ⟨-, hA', ⟨⟨q1, q2, q3⟩, -⟩, -, -, -, -, q7, q8⟩ := id hR
  have hout := n_out (a := a1) (n := (zPl t (zN t)).length) (by omega)
  rw [q1]
  refine i_reqIdx ⟨by show _ ≤ B.1 + 100; omega, by show _ ≤ B.2 + 2000; omega⟩ (fun hc => ?_) (fun hc sz ns => ?_)
  · obtain ⟨p, p1, p2⟩ := n_ofNN (n := (zPl t (zN t)).length) (by omega) (fun z => hc (Or.inl z)) (Classical.byContradiction fun z => hc (Or.inr z))
    subst p2
    have ec : (nI p).toNatClampNeg = p := nI_clamp (by omega)
    rw [rA_p hA']
    refine ⟨fun z => (by cases z), rA_kp hA', vp_nI (n := 48) (by omega) (by decide), fun _ _ => ?_⟩
    refine mm_laysPlaces (rA_M hA) (rA_T hA).2.1 (rA_Z hA).1 (Ag_rfl t) (fun t' _ g pl => ?_)
    have e : mgI t' 24 = nI (zPl t (zN t)).length := pl.1
    rw [e]
    refine i_go0 (fun z => hc (hout.mpr z)) one_ne one_ne ⟨Or.inr rfl, fun _ => vp_nI (n := 48) (by omega) (by decide), fun x2 hx2 => ?_⟩
    rw [if_neg one_ne] at hx2
    refine ⟨thr_same t' 0, fun _ => ?_, hn S' (szC S') (nsC S') _ hR (Nat.le_add_right_of_le hR.2.2.2.2.2.2.2.1) (Nat.le_add_right_of_le hR.2.2.2.2.2.2.2.2) (Ag_msI g (by decide))⟩
    show Int32.toInt64 (fA S' 144 po (nI p).toNatClampNeg) = Int32.toInt64 x2
    rw [hx2, ec, (q2 p p1).1]
    show _ = Int32.toInt64 (t'.2 25 (nI p).toNatClampNeg)
    rw [ec, pl.2.1 p p1]
  · refine ⟨rfl, fun hz1 hz2 => ?_⟩
    refine mm_laysPlaces (rA_M hA) (rA_T hA).2.1 (rA_Z hA).1 (Ag_rfl t) (fun t' _ g pl => ?_)
    have e : mgI t' 24 = nI (zPl t (zN t)).length := pl.1
    rw [e]
    refine i_go1 (hout.mp hc) ⟨Or.inl rfl, fun z => absurd rfl z, fun x2 _ => ?_⟩
    exact ⟨thr_same t' 1, fun z => absurd z (by decide), hn S' sz ns _ hR hz1 hz2 (Ag_msI g (by decide))⟩
theorem si_startOf (hI : Ip lb o so po I) : Si_startOf lb o I := by
  intro n S t ov a1 h
  obtain ⟨hA, B, ⟨l1, l2⟩, hP, hw, hn⟩ := hI n S t h
  obtain ⟨l3, l4⟩ := hP.2.2.2.1
  have h48 := zPl_len48 (rA_M hA) (rA_T hA).2.1 (Nat.le_refl _)
  refine ⟨(B.1 + 100, B.2 + 2000), ⟨⟨l1, l2⟩, ⟨Nat.le_add_right_of_le l3, Nat.le_add_right_of_le l4⟩⟩, rA_k hA, cc_played hA hP (Nat.le_add_right _ _) (Nat.le_add_right _ _) (fun S' hR => ⟨rA_kp hR.2.1, ?_⟩)⟩
  obtain ⟨-, hA', ⟨⟨q1, q2, q3⟩, -⟩, -, -, -, -, q7, q8⟩ := id hR
  have hout := n_out (a := a1) (n := (zPl t (zN t)).length) (by omega)
  rw [q1]
  refine i_reqIdx ⟨by show _ ≤ B.1 + 100; omega, by show _ ≤ B.2 + 2000; omega⟩ (fun hc => ?_) (fun hc sz ns => ?_)
  · obtain ⟨p, p1, p2⟩ := n_ofNN (n := (zPl t (zN t)).length) (by omega) (fun z => hc (Or.inl z)) (Classical.byContradiction fun z => hc (Or.inr z))
    subst p2
    have ec : (nI p).toNatClampNeg = p := nI_clamp (by omega)
    rw [rA_p hA']
    refine ⟨fun z => (by cases z), rA_kp hA', vp_nI (n := 48) (by omega) (by decide), fun _ _ => ?_⟩
    refine mm_laysPlaces (rA_M hA) (rA_T hA).2.1 (rA_Z hA).1 (Ag_rfl t) (fun t' _ g pl => ?_)
    have e : mgI t' 24 = nI (zPl t (zN t)).length := pl.1
    rw [e]
    refine i_go0 (fun z => hc (hout.mpr z)) one_ne one_ne ⟨Or.inr rfl, fun _ => vp_nI (n := 49) (by omega) (by decide), fun x2 hx2 => ?_⟩
    rw [if_neg one_ne] at hx2
    refine ⟨thr_same t' 0, fun _ => ?_, hn S' (szC S') (nsC S') _ hR (Nat.le_add_right_of_le hR.2.2.2.2.2.2.2.1) (Nat.le_add_right_of_le hR.2.2.2.2.2.2.2.2) (Ag_msI g (by decide))⟩
    show Int32.toInt64 (fA S' 145 po (nI p).toNatClampNeg) = Int32.toInt64 x2
    rw [hx2, ec, (q2 p p1).2]
    show _ = Int32.toInt64 (t'.2 26 (nI p).toNatClampNeg)
    rw [ec, pl.2.2 p (by omega)]
  · refine ⟨rfl, fun hz1 hz2 => ?_⟩
    refine mm_laysPlaces (rA_M hA) (rA_T hA).2.1 (rA_Z hA).1 (Ag_rfl t) (fun t' _ g pl => ?_)
    have e : mgI t' 24 = nI (zPl t (zN t)).length := pl.1
    rw [e]
    refine i_go1 (hout.mp hc) ⟨Or.inl rfl, fun z => absurd rfl z, fun x2 _ => ?_⟩
    exact ⟨thr_same t' 1, fun z => absurd z (by decide), hn S' sz ns _ hR hz1 hz2 (Ag_msI g (by decide))⟩
end PS
