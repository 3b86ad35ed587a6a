/-! A PART IS DRAWN: THE WHOLE METHOD -/
section DX
variable {A t : MS} {S S' : CS} {o so po n q v : Nat} {b lb : Nat × Nat}
theorem bX_mono {c d : Nat} (h1 : fI S' 150 po = fI S 150 po) (h2 : fI S' 199 so = fI S 199 so) (h3 : fL S' 148 po = fL S 148 po) (h4 : fC S' 148 po = fC S 148 po) (h5 : szC S' ≤ szC S + c) (h6 : nsC S' ≤ nsC S + d) : (bX S' A so po).1 ≤ (bX S A so po).1 + c ∧ (bX S' A so po).2 ≤ (bX S A so po).2 + d := by
  by_cases z : fI S 150 po = fI S 199 so
  · rw [bX_1 z, bX_1 (by rw [h1, h2]; exact z)]
    exact ⟨h5, h6⟩
  · rw [bX_0 z, bX_0 (by rw [h1, h2]; exact z), h3, h4]
    exact ⟨by dsimp only; omega, by dsimp only; omega⟩
theorem sG_c {S2 S3 : CS} (h : sG S2 S3 A so po) (h1 : fI S2 150 po = fI S 150 po) (h2 : fI S2 199 so = fI S 199 so) (h3 : fL S2 148 po = fL S 148 po) (h4 : fC S2 148 po = fC S 148 po) (h5 : fL S' 148 po = fL S3 148 po) (h6 : fC S' 148 po = fC S3 148 po) : sG S S' A so po := by
  unfold sG at h ⊢
  rw [h5, h6, ← h1, ← h2, ← h3, ← h4]
  exact h
/-- what is left when the part is there -/
theorem cc_drawn2 (h : Jo o so po n 4 S A) (hv : v < 4) (hd : zDr A v) (hq : fQ S 226 o v = some q) {B : Nat × Nat} (hB1 : (bX S A so po).1 ≤ B.1) (hB2 : (bX S A so po).2 ≤ B.2) {Q : Nat → CS → Prop} {X : String → CS → Prop} (hQ : ∀ S' lo pg, PrS S' q v lo pg → PartOK A S' q v lo pg → Jo o so po n 4 S' A → sG S S' A so po → szC S' ≤ (bX S A so po).1 → nsC S' ≤ (bX S A so po).2 → Q q S') : ((vp_in (nI v) (cLN 226)) ∧ ((fQ S 226 o (Int32.toNatClampNeg (nI v))) ≠ none) ∧ (kdC S (oG (fQ S 226 o (Int32.toNatClampNeg (nI v)))) = 7) ∧ ((fR S 224 o) ≠ none) ∧ (kdC S (oG (fR S 224 o)) = 12) ∧ ∃ J155 : CS → Prop, (∀ t14 : CS, J155 t14 → (Q (oG (fQ S 226 o (Int32.toNatClampNeg (nI v)))) t14)) ∧ ((((fI S 121 (oG (fQ S 226 o (Int32.toNatClampNeg (nI v))))) = (fI S 199 (oG (fR S 224 o)))) → J155 S) ∧ (¬ ((fI S 121 (oG (fQ S 226 o (Int32.toNatClampNeg (nI v))))) = (fI S 199 (oG (fR S 224 o)))) → ∀ t15 : CS, t15 = usI S 121 (oG (fQ S 226 o (Int32.toNatClampNeg (nI v)))) (fI S 199 (oG (fR S 224 o))) → ((fR t15 225 o) ≠ none) ∧ ((fR t15 224 o) ≠ none) ∧ (kdC t15 (oG (fR t15 225 o)) = 9) ∧ w_X6_renew B (oG (fR t15 225 o)) (oG (fR t15 224 o)) t15 (fun t19 => ((fR t19 224 o) ≠ none) ∧ w_X4_layItems B (oG (fQ S 226 o (Int32.toNatClampNeg (nI v)))) (oG (fR t19 224 o)) t19 (fun t21 => ((fR t21 119 (oG (fQ S 226 o (Int32.toNatClampNeg (nI v))))) ≠ none) ∧ ((fR t21 224 o) ≠ none) ∧ (kdC t21 (oG (fR t21 224 o)) = 12) ∧ (kdC t21 (oG (fR t21 119 (oG (fQ S 226 o (Int32.toNatClampNeg (nI v)))))) = 4) ∧ w_X1_breakItems B (oG (fR t21 119 (oG (fQ S 226 o (Int32.toNatClampNeg (nI v)))))) (oG (fQ S 226 o (Int32.toNatClampNeg (nI v)))) (fI t21 118 (oG (fQ S 226 o (Int32.toNatClampNeg (nI v))))) (fI t21 196 (oG (fR t21 224 o))) t21 (fun t26 => ((fR t26 224 o) ≠ none) ∧ ((fR t26 225 o) ≠ none) ∧ w_X4_timeBreaks B (oG (fQ S 226 o (Int32.toNatClampNeg (nI v)))) (oG (fR t26 224 o)) (oG (fR t26 225 o)) t26 (fun t29 => ((fR t29 120 (oG (fQ S 226 o (Int32.toNatClampNeg (nI v))))) ≠ none) ∧ ((fR t29 119 (oG (fQ S 226 o (Int32.toNatClampNeg (nI v))))) ≠ none) ∧ (kdC t29 (oG (fR t29 119 (oG (fQ S 226 o (Int32.toNatClampNeg (nI v)))))) = 4) ∧ ((fR t29 224 o) ≠ none) ∧ (kdC t29 (oG (fR t29 224 o)) = 12) ∧ (kdC t29 (oG (fR t29 120 (oG (fQ S 226 o (Int32.toNatClampNeg (nI v)))))) = 6) ∧ w_X3_layPages B (oG (fR t29 120 (oG (fQ S 226 o (Int32.toNatClampNeg (nI v)))))) (fI t29 65 (oG (fR t29 119 (oG (fQ S 226 o (Int32.toNatClampNeg (nI v))))))) (fI t29 197 (oG (fR t29 224 o))) t29 (fun t36 => J155 t36) X) X) X) X) X))) := by
  have h1 := h.1
  obtain ⟨e, e1, e2, e3, e4⟩ := id h.2.2.1
  obtain ⟨lo, pg, p1, p2, p3⟩ := e4 v q hv hq
  have es : oG (fR S 224 o) = so := by rw [rA_s h1]; rfl
  rw [nI_clamp (show v < 2147483648 by omega), hq, es, show oG (some q) = q from rfl]
  refine ⟨vp_nI (n := 4) hv (by decide), fun z => (by cases z), p1.1, ne_so (rA_s h1), (rA_B h1).1, Q q, fun _ z => z, fun c => ?_, fun c t15 h15 => ?_⟩
  · obtain ⟨y1, y2⟩ := p3 (by omega) c
    exact hQ S lo pg p1 y2 h ⟨fun _ => ⟨rfl, rfl⟩, fun z => absurd y1 z⟩ bX_ge.1 bX_ge.2
  · have J15 : Jo o so po n v t15 A := by
      rw [h15]
      exact Jo_ed h hv hq
    have hX : bX t15 A so po = bX S A so po := by
      unfold bX
      rw [h15, fI_ne (by decide), fI_ne (by decide)]
      rfl
    have hPk : Pk t15 A so po (bX t15 A so po) := bX_Pk J15
    refine cc_ren J15.1 hPk (by rw [hX]; exact hB1) (by rw [hX]; exact hB2) (fun t19 hR => ?_)
    have J19 : Jo o so po n v t19 A := Jo_Rn J15 hR
    obtain ⟨g, r2, r3, r4, r5, r6, r7, r8, r9⟩ := id hR
    rw [rA_s r2]
    refine ⟨fun z => (by cases z), ?_⟩
    have q15 : fQ t15 226 o v = some q := by rw [h15]; exact hq
    have ko : kdC t15 o ≠ 0 := by rw [rA_k J15.1]; decide
    have q19 : fQ t19 226 o v = some q := by rw [((g o ko).2.2 226 (by unfold fRn; omega)).2.2.2.1]; exact q15
    obtain ⟨e', -, e2', -, e4'⟩ := id J19.2.2.1
    obtain ⟨lo2, pg2, y1, -, -⟩ := e4' v q hv q19
    have ks : kdC t15 so ≠ 0 := by rw [(rA_B J15.1).1]; decide
    have h9 : fI t19 150 po = fI t19 199 so := r4.trans ((g so ks).2.2 199 (by unfold fRn; omega)).1.symm
    have hlen : (fL t19 148 po).length < 2147483648 := by
      have := J19.2.1.2.2.2
      omega
    refine cc_layPart r2 hv hd.1 r3 r5 hlen y1 (fun S' hF hO => ?_)
    have J' : Jo o so po n 4 S' A := Jo_fin J19 hv q19 y1 hF hO h9
    obtain ⟨⟨a1, a2, a3, a4, a5, a6, a7⟩, a8, a9⟩ := hF
    have hk : PrS S' q v lo2 pg2 := PrS_o ⟨by rw [a1], by rw [a1], by rw [a1]⟩ (by rw [a2]) (by rw [a2]) (by rw [(a8 112 (by unfold qF; omega)).1]) y1
    refine hQ S' lo2 pg2 hk hO J' (sG_c (sG_Rn hR) (by rw [h15, fI_ne (by decide)]) (by rw [h15, fI_ne (by decide)]) (by rw [h15]; rfl) (by rw [h15]; rfl) (by rw [a4]) (by rw [a5])) ?_ ?_
    · rw [a6, ← hX]
      exact r8
    · rw [a7, ← hX]
      exact r9
theorem cc_drawn (hb : b.1 + 10000 ≤ lb.1 ∧ b.2 + 42000 ≤ lb.2) {a1 : Int32} (h : Iv b o so po (n + 1) S t) {Q : Nat × Nat → Nat → CS → Prop} {X : Nat × Nat → String → CS → Prop}
    (hX1 : v_isVoice a1 = 0 → ∀ B : Nat × Nat, (∀ (sz ns : Nat) (t' : MS), sz ≤ B.1 → ns ≤ B.2 → Ag t t' → Iv b o so po n (rsz S sz ns) t') → ∀ sz ns : Nat, X B "java/lang/IllegalArgumentException" (rsz S sz ns))
    (hX2 : ∀ (A : MS) (v : Nat), rA S A o so po → Ag A t → v < 4 → a1 = nI v → ¬ v_isVoice a1 = 0 → ¬ zDr A v → ∀ B : Nat × Nat, (∀ (sz ns : Nat) (t' : MS), sz ≤ B.1 → ns ≤ B.2 → Ag A t' → Iv b o so po n (rsz S sz ns) t') → ∀ sz ns : Nat, X B "java/lang/IllegalStateException" (rsz S sz ns))
    (hQ : ∀ (A : MS) (v : Nat), rA S A o so po → Ag A t → v < 4 → a1 = nI v → ¬ v_isVoice a1 = 0 → zDr A v → ∀ (B : Nat × Nat) (q lo pg : Nat) (S' : CS), PrS S' q v lo pg → PartOK A S' q v lo pg → rA S' A o so po → (szC S' + 1 ≤ B.1 ∧ nsC S' + 6 ≤ B.2) → (∀ (sz ns : Nat) (t' : MS), sz ≤ B.1 → ns ≤ B.2 → Ag A t' → Iv b o so po n (rsz S' sz ns) t') → Q B q S') :
    ∃ B : Nat × Nat, sB lb B S ∧ (kdC S o = 14) ∧ w_X11_drawnPart B o a1 S (Q B) (X B) := by
  obtain ⟨A, g, hJ, hr⟩ := h
  have hJn : Jo o so po n 4 S A := Jo_dn hJ (Nat.le_succ n)
  have h1 := hJ.1
  have hc := hJ.2.1.2
  obtain ⟨l1, l2⟩ := Jr_lb hb hc hr
  have hcl : ∀ (sz ns : Nat) (t' : MS), sz ≤ szC S + 100 → ns ≤ nsC S + 2000 → Ag A t' → Iv b o so po n (rsz S sz ns) t' := fun sz ns t' z1 z2 g2 => ⟨A, g2, Jo_rsz hJn, Jr_rs hr z1 z2⟩
  by_cases hvo : v_isVoice a1 = 0
  · refine ⟨(szC S + 100, nsC S + 2000), ⟨⟨l1, l2⟩, ⟨Nat.le_add_right _ _, Nat.le_add_right _ _⟩⟩, rA_k h1, a_reqVoice ⟨by show _ ≤ szC S + 100; omega, by show _ ≤ nsC S + 2000; omega⟩ (fun v hv ev hz => absurd hvo hz) (fun hz => hX1 hz _ (fun sz ns t' z1 z2 g2 => hcl sz ns t' z1 z2 (Ag_trans g g2)))⟩
  obtain ⟨v, hv, ev⟩ := v_ofNN (fun z => hvo (v_out.mp z))
  by_cases hd : zDr A v
  · obtain ⟨m1, m2⟩ := bX_lb hb hJn hr
    obtain ⟨x1, x2⟩ := bX_ge (S := S) (A := A) (so := so) (po := po)
    refine ⟨((bX S A so po).1 + 100, (bX S A so po).2 + 2000), ⟨⟨m1, m2⟩, ⟨Nat.le_add_right_of_le x1, Nat.le_add_right_of_le x2⟩⟩, rA_k h1, a_reqVoice ⟨by show _ ≤ (bX S A so po).1 + 100; omega, by show _ ≤ (bX S A so po).2 + 2000; omega⟩ (fun v2 hv2 ev2 hz => ?_) (fun z => absurd z hvo)⟩
    obtain rfl : v = v2 := (nI_eq (by omega) (by omega)).mp (ev.symm.trans ev2)
    have es : oG (fR S 224 o) = so := by rw [rA_s h1]; rfl
    have cl : cNF 7 ≤ 20 ∧ cNE 7 = 5 := by decide +kernel
    rw [ev, es]
    refine ⟨rA_k h1, ne_so (rA_s h1), (rA_B h1).1, cc_canDraw (rA_B h1) (rA_M h1) hv (fun _ => ⟨fun z => absurd z one_ne, fun _ => ⟨vp_nI (n := 4) hv (by decide), fun t8 => ∃ q, fQ t8 226 o v = some q ∧ Jo o so po n 4 t8 A ∧ fL t8 148 po = fL S 148 po ∧ fC t8 148 po = fC S 148 po ∧ fI t8 150 po = fI S 150 po ∧ fI t8 199 so = fI S 199 so ∧ szC t8 ≤ szC S + 20 ∧ nsC t8 ≤ nsC S + 660, fun t8 h8 => ?_, fun hno => ?_, fun hso => ?_⟩⟩) (fun z => absurd hd z)⟩
    · obtain ⟨q, k1, k2, k3, k4, k5, k6, k7, k8⟩ := h8
      obtain ⟨w1, w2⟩ := bX_mono (A := A) k5 k6 k3 k4 k7 k8
      refine cc_drawn2 k2 hv hd k1 (by show _ ≤ (bX S A so po).1 + 100; omega) (by show _ ≤ (bX S A so po).2 + 2000; omega) (fun S' lo pg p1 p2 p3 p4 p5 p6 => ?_)
      refine hQ A v h1 g hv ev hvo hd _ q lo pg S' p1 p2 p3.1 ⟨by show _ ≤ (bX S A so po).1 + 100; omega, by show _ ≤ (bX S A so po).2 + 2000; omega⟩ (fun sz ns t' z1 z2 g2 => ⟨A, g2, Jo_rsz p3, bX_Jr (so := so) (A := A) hc hr (sG_c p4 k5 k6 k3 k4 rfl rfl) z1 z2⟩)
    · refine ⟨⟨by show _ ≤ (bX S A so po).1 + 100; omega, by show _ ≤ (bX S A so po).2 + 2000; omega⟩, fun f0 t39 h39 => ?_⟩
      rw [nI_clamp (show v < 2147483648 by omega)] at hno
      have gA : Eqf tT S t39 := by rw [h39]; exact Eqf_newO Eqf_rfl f0
      have kA : kdC t39 (szC S) = 107 := by
        rw [h39, s_newO_kdC, va_up_at, if_pos rfl, cl.2]
        rfl
      have zA : szC t39 = szC S + 1 := by rw [h39, s_newO_szC]
      have nA : nsC t39 = nsC S + cNF 7 := by rw [h39, s_newO_nsC]
      refine i_X4 gA f0 kA zA ⟨by show _ ≤ (bX S A so po).1 + 100; omega, by show _ ≤ (bX S A so po).2 + 2000; omega⟩ (fun t40 lo pg g40 p40 e40 l40 k40 z40 n40 => ⟨p40.1, vp_nI (n := 4) hv (by decide), fun t43 h43 => ?_⟩)
      have kp : kdC S po ≠ 0 := by rw [rA_kp h1]; decide
      have ks : kdC S so ≠ 0 := by rw [(rA_B h1).1]; decide
      refine ⟨szC S, ?_, ?_, ?_, ?_, ?_, ?_, ?_, ?_⟩
      · rw [h43]
        show up2 (fQ t40) 226 o (va_up (fQ t40 226 o) (nI v).toNatClampNeg (some (szC S))) 226 o v = _
        rw [up2_is, nI_clamp (by omega), va_up_at, if_pos rfl]
      · rw [h43]
        exact Jo_mk hJn hv hno g40 p40 e40 l40 k40
      · rw [h43]
        exact ((g40 po kp).2.2 148 trivial).2.2.2.2.1
      · rw [h43]
        exact ((g40 po kp).2.2 148 trivial).2.2.2.2.2
      · rw [h43]
        exact ((g40 po kp).2.2 150 trivial).1
      · rw [h43]
        exact ((g40 so ks).2.2 199 trivial).1
      · have : szC t43 = szC t40 := by rw [h43]; rfl
        omega
      · have : nsC t43 = nsC t40 := by rw [h43]; rfl
        omega
    · rw [nI_clamp (show v < 2147483648 by omega)] at hso
      obtain ⟨q, hq⟩ : ∃ q, fQ S 226 o v = some q := by
        cases hqq : fQ S 226 o v with
        | none => exact absurd hqq hso
        | some q => exact ⟨q, rfl⟩
      exact ⟨q, hq, hJn, rfl, rfl, rfl, rfl, Nat.le_add_right _ _, Nat.le_add_right _ _⟩
  · refine ⟨(szC S + 100, nsC S + 2000), ⟨⟨l1, l2⟩, ⟨Nat.le_add_right _ _, Nat.le_add_right _ _⟩⟩, rA_k h1, a_reqVoice ⟨by show _ ≤ szC S + 100; omega, by show _ ≤ nsC S + 2000; omega⟩ (fun v2 hv2 ev2 hz => ?_) (fun z => absurd z hvo)⟩
    obtain rfl : v = v2 := (nI_eq (by omega) (by omega)).mp (ev.symm.trans ev2)
    have es : oG (fR S 224 o) = so := by rw [rA_s h1]; rfl
    rw [ev, es]
    refine ⟨rA_k h1, ne_so (rA_s h1), (rA_B h1).1, cc_canDraw (rA_B h1) (rA_M h1) hv (fun z => absurd z hd) (fun _ => ⟨fun _ => ⟨⟨by show _ ≤ szC S + 100; omega, by show _ ≤ nsC S + 2000; omega⟩, hX2 A v h1 g hv ev hvo hd _ hcl⟩, fun z => absurd rfl z⟩)⟩
end DX
