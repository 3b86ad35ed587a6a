/-! A PART IS LAID, IN THE CLASS -/
def PrS (S : CS) (q v lo pg : Nat) : Prop := kdC S q = 7 ∧ fR S 119 q = some lo ∧ fR S 120 q = some pg ∧ kdC S lo = 4 ∧ kdC S pg = 6 ∧ fI S 112 q = nI v
def PartOK (A : MS) (S : CS) (q v lo pg : Nat) : Prop := iC S q (zIt A v (zN A)) ∧ (∀ k, k < dm A v → fA S 117 q k = nI (dW A v k)) ∧ lC S lo (dW A v) (dm A v) (dP A) ∧ (∀ k, 1 ≤ k → k < dL A v → fA S 101 pg k = nI (dB A v k - 1) ∧ fA S 102 pg k = nI (dT A v k) ∧ fA S 103 pg k = nI (dR A v k) ∧ fA S 104 pg k = nI (dE A v k)) ∧ pC S pg (dPg A v) (dL A v)
/-- fields of parts; a part alone was changed -/
def qF (f : Nat) : Prop := (64 ≤ f ∧ f ≤ 67) ∨ (96 ≤ f ∧ f ≤ 106) ∨ (113 ≤ f ∧ f ≤ 118)
def Fq (q lo pg : Nat) (S S' : CS) : Prop := (kdC S' = kdC S ∧ fR S' = fR S ∧ fQ S' = fQ S ∧ fL S' = fL S ∧ fC S' = fC S ∧ szC S' = szC S ∧ nsC S' = nsC S) ∧ (∀ f, ¬ qF f → fI S' f = fI S f ∧ fA S' f = fA S f) ∧ ∀ o, o ≠ q → o ≠ lo → o ≠ pg → fJ S' o = fJ S o ∧ ∀ f, fI S' f o = fI S f o ∧ fA S' f o = fA S f o
section PT2
variable {A : MS} {S S' : CS} {o so po q lo pg v : Nat} {P : Nat → Prop}
theorem Fq_Fo {x : Nat} (h : Fo P x S S') (hP : ∀ f, P f → qF f) (hx : x = q ∨ x = lo ∨ x = pg) : Fq q lo pg S S' := by
  obtain ⟨⟨a1, a2, a3, a4, a5, a6, a7, a8, a9⟩, a10⟩ := h
  exact ⟨⟨a1, a3, a4, a5, a6, a7, a8⟩, fun f hf => a10 f (fun z => hf (hP f z)), fun o h1 h2 h3 => ⟨by rw [a2], fun f => a9 f o (fun z => hx.elim (fun e => h1 (z.trans e)) (fun e => e.elim (fun e => h2 (z.trans e)) (fun e => h3 (z.trans e))))⟩⟩
theorem Fq_Fj {x : Nat} (h : Fj P x S S') (hP : ∀ f, P f → qF f) (hx : x = q ∨ x = lo ∨ x = pg) : Fq q lo pg S S' := by
  obtain ⟨⟨a1, a3, a4, a5, a6, a7, a8, a9⟩, a10⟩ := h
  exact ⟨⟨a1, a3, a4, a5, a6, a7, a8⟩, fun f hf => a10 f (fun z => hf (hP f z)), fun o h1 h2 h3 => a9 o (fun z => hx.elim (fun e => h1 (z.trans e)) (fun e => e.elim (fun e => h2 (z.trans e)) (fun e => h3 (z.trans e))))⟩
theorem Fq_trans {S'' : CS} (h : Fq q lo pg S S') (g : Fq q lo pg S' S'') : Fq q lo pg S S'' := by
  obtain ⟨⟨a1, a2, a3, a4, a5, a6, a7⟩, a8, a9⟩ := h
  obtain ⟨⟨b1, b2, b3, b4, b5, b6, b7⟩, b8, b9⟩ := g
  exact ⟨⟨b1.trans a1, b2.trans a2, b3.trans a3, b4.trans a4, b5.trans a5, b6.trans a6, b7.trans a7⟩, fun f hf => ⟨(b8 f hf).1.trans (a8 f hf).1, (b8 f hf).2.trans (a8 f hf).2⟩, fun o h1 h2 h3 => ⟨(b9 o h1 h2 h3).1.trans (a9 o h1 h2 h3).1, fun f => ⟨((b9 o h1 h2 h3).2 f).1.trans ((a9 o h1 h2 h3).2 f).1, ((b9 o h1 h2 h3).2 f).2.trans ((a9 o h1 h2 h3).2 f).2⟩⟩⟩
theorem Eqf_Fq (h : Fq q lo pg S S') (hP : ∀ f, P f → ¬ qF f) (h105 : ¬ P 105) : Eqf P S S' := by
  obtain ⟨⟨a1, a2, a3, a4, a5, a6, a7⟩, a8, -⟩ := h
  exact fun x hx => ⟨congrFun a1 x, fun z => absurd z h105, fun f hf => ⟨congrFun (a8 f (hP f hf)).1 x, congrFun (a8 f (hP f hf)).2 x, by rw [a2], by rw [a3], by rw [a4], by rw [a5]⟩⟩
theorem cc_layPart (hA : rA S A o so po) (hv : v < 4) (hN : 0 < zN A) (hpl : PlayOK A S po) (hro : rowOk S po) (hlen : (fL S 148 po).length < 2147483648) (hp : PrS S q v lo pg) {B : Nat × Nat} {Q : CS → Prop} {X : String → CS → Prop} (hQ : ∀ S', Fq q lo pg S S' → PartOK A S' q v lo pg → Q S') : w_X4_layItems B q so S (fun t21 => ((fR t21 119 q) ≠ none) ∧ ((fR t21 224 o) ≠ none) ∧ (kdC t21 (oG (fR t21 224 o)) = 12) ∧ (kdC t21 (oG (fR t21 119 q)) = 4) ∧ w_X1_breakItems B (oG (fR t21 119 q)) q (fI t21 118 q) (fI t21 196 (oG (fR t21 224 o))) t21 (fun t26 => ((fR t26 224 o) ≠ none) ∧ ((fR t26 225 o) ≠ none) ∧ w_X4_timeBreaks B q (oG (fR t26 224 o)) (oG (fR t26 225 o)) t26 (fun t29 => ((fR t29 120 q) ≠ none) ∧ ((fR t29 119 q) ≠ none) ∧ (kdC t29 (oG (fR t29 119 q)) = 4) ∧ ((fR t29 224 o) ≠ none) ∧ (kdC t29 (oG (fR t29 224 o)) = 12) ∧ (kdC t29 (oG (fR t29 120 q)) = 6) ∧ w_X3_layPages B (oG (fR t29 120 q)) (fI t29 65 (oG (fR t29 119 q))) (fI t29 197 (oG (fR t29 224 o))) t29 (fun t36 => Q t36) X) X) X) X := by
  have w := rA_M hA
  have hS := (rA_S hA).2.2.2.2
  have hT := (rA_T hA).2.1
  have hB := rA_B hA
  obtain ⟨s0, s1, s2, s3, -⟩ := rA_S hA
  obtain ⟨p1, p2, p3, p4, p5, p6⟩ := hp
  obtain ⟨dp1, dp2⟩ := dP_ok hS
  obtain ⟨r1, r2, r3⟩ := dRm_ok hS
  obtain ⟨n1, n2, n3⟩ := dL_ok w hS hv
  have hm := dm_ok (v := v) w
  have es : oG (some so) = so := rfl
  have ep : oG (some po) = po := rfl
  have el : oG (some lo) = lo := rfl
  have eg : oG (some pg) = pg := rfl
  have hqp : q ≠ pg := fun z => by rw [z, p5] at p1; exact absurd p1 (by decide)
  have hql : q ≠ lo := fun z => by rw [z, p4] at p1; exact absurd p1 (by decide)
  have hlp : lo ≠ pg := fun z => by rw [z, p5] at p4; exact absurd p4 (by decide)
  refine cc_layItems hB (rA_T hA) w hv p1 p6 (fun t1 F1 i1 w1 => ?_)
  have c1 := F1.1
  rw [c1.2.2.1, p2, rA_s hA, es, el]
  refine ⟨fun z => (by cases z), fun z => (by cases z), by rw [c1.1]; exact hB.1, by rw [c1.1]; exact p4, ?_⟩
  rw [i1.1, (F1.2 196 (by unfold iF; omega)).1, s1, dp2]
  refine cc_breakItems (W := dW A v) (m := dm A v) (P := dP A) (by rw [c1.1]; exact p1) (by rw [c1.1]; exact p4) hm.1 dp1 (dW_ok w hv) (fun j hj => w1 j hj) (fun t2 F2 l2 => ?_)
  have c2 := F2.1
  have G2 : Fq q lo pg S t2 := Fq_trans (Fq_Fo F1 (fun f z => Or.inr (Or.inr z)) (Or.inl rfl)) (Fq_Fo F2 (fun f z => Or.inl z) (Or.inr (Or.inl rfl)))
  have e2R : fR t2 = fR S := G2.1.2.1
  rw [e2R, rA_s hA, rA_p hA, es, ep]
  refine ⟨fun z => (by cases z), fun z => (by cases z), ?_⟩
  have hso : kdC S so ≠ 0 := by rw [hB.1]; decide
  have rA2 : rA t2 A o so po := rA_c hA (Eqf_Fq G2 (fun f z => by unfold fTo at z; unfold qF; omega) (fun z => by unfold fTo at z; omega)) (Ag_rfl A)
  have i2 : iC t2 q (zIt A v (zN A)) := iC_Fc i1 (Fc_Fo F2) (fun f z => by unfold bF at z; omega)
  have h2 : dH A t2 so po q lo v := ⟨rA_B rA2, rA_P rA2, rA_kp rA2, PlayOK_Fc (PlayOK_Fc hpl (Fc_Fo F1) (fun f z => by unfold iF at z; omega)) (Fc_Fo F2) (fun f z => by unfold bF at z; omega), rowOk_c hro G2.1.2.2.2.1 G2.1.1, by rw [G2.1.2.2.2.1]; exact hlen, by rw [G2.1.1]; exact p1, by rw [(G2.2.1 112 (by unfold qF; omega)).1]; exact p6, i2, by rw [e2R]; exact p2, by rw [G2.1.1]; exact p4, l2, (rA_S rA2).2.2.2.1⟩
  refine cc_timeBreaks w hv hS hT hN h2 (by rw [e2R]; exact p3) (by rw [G2.1.1]; exact p5) (fun t3 F3 b3 => ?_)
  have G3 : Fq q lo pg S t3 := Fq_trans G2 (Fq_Fo F3 (fun f z => by unfold tF at z; unfold qF; omega) (Or.inr (Or.inr rfl)))
  have e3R : fR t3 = fR S := G3.1.2.1
  have l3 : lC t3 lo (dW A v) (dm A v) (dP A) := lC_Fc l2 (Fc_Fo F3) (fun f z => by unfold tF at z; omega)
  have i3 : iC t3 q (zIt A v (zN A)) := iC_Fc i2 (Fc_Fo F3) (fun f z => by unfold tF at z; omega)
  rw [e3R, p2, p3, rA_s hA, es, el, eg]
  refine ⟨fun z => (by cases z), fun z => (by cases z), by rw [G3.1.1]; exact p4, fun z => (by cases z), by rw [G3.1.1]; exact hB.1, by rw [G3.1.1]; exact p5, ?_⟩
  have e65 : fI t3 65 lo = nI (dL A v) := l3.1
  rw [e65, (G3.2.1 197 (by unfold qF; omega)).1, s2, r3]
  refine cc_layPages (E := dE A v) (R := dRm A) (n := dL A v) dE_le r2 r1 (by omega) (by rw [G3.1.1]; exact p5) (fun l y1 y2 => (b3 l y1 y2).2.2.2) (fun t4 F4 p4' => ?_)
  have o4 : ∀ x, x ≠ pg → ∀ f, fI t4 f x = fI t3 f x ∧ fA t4 f x = fA t3 f x := fun x hx => (F4.1.2.2.2.2.2.2.2 x hx).2
  have o3 : ∀ x, x ≠ pg → ∀ f, fI t3 f x = fI t2 f x ∧ fA t3 f x = fA t2 f x := fun x hx f => F3.1.2.2.2.2.2.2.2.2 f x hx
  have o2 : ∀ x, x ≠ lo → ∀ f, fI t2 f x = fI t1 f x ∧ fA t2 f x = fA t1 f x := fun x hx f => F2.1.2.2.2.2.2.2.2.2 f x hx
  refine hQ t4 (Fq_trans G3 (Fq_Fj F4 (fun f z => by unfold yF at z; unfold qF; omega) (Or.inr (Or.inr rfl)))) ⟨?_, fun k hk => ?_, ?_, fun k k1 k2 => ?_, p4'⟩
  · unfold iC at i3 ⊢
    rw [(o4 q hqp 118).1, (o4 q hqp 113).2, (o4 q hqp 114).2, (o4 q hqp 115).2, (o4 q hqp 116).2]
    exact i3
  · rw [(o4 q hqp 117).2, (o3 q hqp 117).2, (o2 q hql 117).2]
    exact w1 k hk
  · unfold lC at l3 ⊢
    rw [(o4 lo hlp 65).1, (o4 lo hlp 64).2, (o4 lo hlp 66).2]
    exact l3
  · rw [(F4.2 101 (by unfold yF; omega)).2, (F4.2 102 (by unfold yF; omega)).2, (F4.2 103 (by unfold yF; omega)).2, (F4.2 104 (by unfold yF; omega)).2]
    exact b3 k k1 k2
end PT2
