/-! A PART IS DRAWN: THE WHOLE METHOD -/
section DX
variable {A t : MS} {S S' : CS} {o so po n q v : Nat} {b lb : Nat × Nat}
theorem bX_mono {c d : Nat} (h1 : fI S' 150 po = fI S 150 po) (h2 : fI S' 199 so = fI S 199 so) (h3 : fL S' 148 po = fL S 148 po) (h4 : fC S' 148 po = fC S 148 po) (h5 : szC S' ≤ szC S + c) (h6 : nsC S' ≤ nsC S + d) : (bX S' A so po).1 ≤ (bX S A so po).1 + c ∧ (bX S' A so po).2 ≤ (bX S A so po).2 + d := by
  by_cases z : fI S 150 po = fI S 199 so
  · rw [bX_1 z, bX_1 (by rw [h1, h2]; exact z)]
    exact ⟨h5, h6⟩
  · rw [bX_0 z, bX_0 (by rw [h1, h2]; exact z), h3, h4]
    exact ⟨by dsimp only; omega, by dsimp only; omega⟩
theorem sG_c {S2 S3 : CS} (h : sG S2 S3 A so po) (h1 : fI S2 150 po = fI S 150 po) (h2 : fI S2 199 so = fI S 199 so) (h3 : fL S2 148 po = fL S 148 po) (h4 : fC S2 148 po = fC S 148 po) (h5 : fL S' 148 po = fL S3 148 po) (h6 : fC S' 148 po = fC S3 148 po) : sG S S' A so po := by
  unfold sG at h ⊢
  rw [h5, h6, ← h1, ← h2, ← h3, ← h4]
  exact h
/-- what is left when the part is there -/
theorem cc_drawn2 (h : Jo o so po n 4 S A) (hv : v < 4) (hd : zDr A v) (hq : fQ S 226 o v = some q) {B : Nat × Nat} (hB1 : (bX S A so po).1 ≤ B.1) (hB2 : (bX S A so po).2 ≤ B.2) {Q : Nat → CS → Prop} {X : String → CS → Prop} (hQ : ∀ S' lo pg, PrS S' q v lo pg → PartOK A S' q v lo pg → Jo o so po n 4 S' A → sG S S' A so po → szC S' ≤ (bX S A so po).1 → nsC S' ≤ (bX S A so po).2 → fQ S' 226 o = fQ S 226 o → Q q S') : ((vp_in (nI v) (cLN 226)) ∧ ((fQ S 226 o (Int32.toNatClampNeg (nI v))) ≠ none) ∧ (kdC S (oG (fQ S 226 o (Int32.toNatClampNeg (nI v)))) = 7) ∧ ((fR S 224 o) ≠ none) ∧ (kdC S (oG (fR S 224 o)) = 12) ∧ ∃ J155 : CS → Prop, (∀ t14 : CS, J155 t14 → (Q (oG (fQ S 226 o (Int32.toNatClampNeg (nI v)))) t14)) ∧ ((((fI S 121 (oG (fQ S 226 o (Int32.toNatClampNeg (nI v))))) = (fI S 199 (oG (fR S 224 o)))) → J155 S) ∧ (¬ ((fI S 121 (oG (fQ S 226 o (Int32.toNatClampNeg (nI v))))) = (fI S 199 (oG (fR S 224 o)))) → ∀ t15 : CS, t15 = usI S 121 (oG (fQ S 226 o (Int32.toNatClampNeg (nI v)))) (fI S 199 (oG (fR S 224 o))) → ((fR t15 225 o) ≠ none) ∧ ((fR t15 224 o) ≠ none) ∧ (kdC t15 (oG (fR t15 225 o)) = 9) ∧ w_X6_renew B (oG (fR t15 225 o)) (oG (fR t15 224 o)) t15 (fun t19 => ((fR t19 224 o) ≠ none) ∧ w_X4_layItems B (oG (fQ S 226 o (Int32.toNatClampNeg (nI v)))) (oG (fR t19 224 o)) t19 (fun t21 => ((fR t21 119 (oG (fQ S 226 o (Int32.toNatClampNeg (nI v))))) ≠ none) ∧ ((fR t21 224 o) ≠ none) ∧ (kdC t21 (oG (fR t21 224 o)) = 12) ∧ (kdC t21 (oG (fR t21 119 (oG (fQ S 226 o (Int32.toNatClampNeg (nI v)))))) = 4) ∧ w_X1_breakItems B (oG (fR t21 119 (oG (fQ S 226 o (Int32.toNatClampNeg (nI v)))))) (oG (fQ S 226 o (Int32.toNatClampNeg (nI v)))) (fI t21 118 (oG (fQ S 226 o (Int32.toNatClampNeg (nI v))))) (fI t21 196 (oG (fR t21 224 o))) t21 (fun t26 => ((fR t26 224 o) ≠ none) ∧ ((fR t26 225 o) ≠ none) ∧ w_X4_timeBreaks B (oG (fQ S 226 o (Int32.toNatClampNeg (nI v)))) (oG (fR t26 224 o)) (oG (fR t26 225 o)) t26 (fun t29 => ((fR t29 120 (oG (fQ S 226 o (Int32.toNatClampNeg (nI v))))) ≠ none) ∧ ((fR t29 119 (oG (fQ S 226 o (Int32.toNatClampNeg (nI v))))) ≠ none) ∧ (kdC t29 (oG (fR t29 119 (oG (fQ S 226 o (Int32.toNatClampNeg (nI v)))))) = 4) ∧ ((fR t29 224 o) ≠ none) ∧ (kdC t29 (oG (fR t29 224 o)) = 12) ∧ (kdC t29 (oG (fR t29 120 (oG (fQ S 226 o (Int32.toNatClampNeg (nI v)))))) = 6) ∧ w_X3_layPages B (oG (fR t29 120 (oG (fQ S 226 o (Int32.toNatClampNeg (nI v)))))) (fI t29 65 (oG (fR t29 119 (oG (fQ S 226 o (Int32.toNatClampNeg (nI v))))))) (fI t29 197 (oG (fR t29 224 o))) t29 (fun t36 => J155 t36) X) X) X) X) X))) := by
  have h1 := h.1
  obtain ⟨e, e1, e2, e3, e4⟩ := id h.2.2.1
  obtain ⟨lo, pg, p1, p2, p3⟩ := e4 v q hv hq
  have es : oG (fR S 224 o) = so := by rw [rA_s h1]; rfl
  rw [nI_clamp (show v < 2147483648 by omega), hq, es, show oG (some q) = q from rfl]
  refine ⟨vp_nI (n := 4) hv (by decide), fun z => (by cases z), p1.1, ne_so (rA_s h1), (rA_B h1).1, Q q, fun _ z => z, fun c => ?_, fun c t15 h15 => ?_⟩
  · obtain ⟨y1, y2⟩ := p3 (by omega) c
    exact hQ S lo pg p1 y2 h ⟨fun _ => ⟨rfl, rfl⟩, fun z => absurd y1 z⟩ bX_ge.1 bX_ge.2 rfl
  · have J15 : Jo o so po n v t15 A := by
      rw [h15]
      exact Jo_ed h hv hq
    have hX : bX t15 A so po = bX S A so po := by
      unfold bX
      rw [h15, fI_ne (by decide), fI_ne (by decide)]
      rfl
    have hPk : Pk t15 A so po (bX t15 A so po) := bX_Pk J15
    refine cc_ren J15.1 hPk (by rw [hX]; exact hB1) (by rw [hX]; exact hB2) (fun t19 hR => ?_)
    have J19 : Jo o so po n v t19 A := Jo_Rn J15 hR
    obtain ⟨g, r2, r3, r4, r5, r6, r7, r8, r9⟩ := id hR
    rw [rA_s r2]
    refine ⟨fun z => (by cases z), ?_⟩
    have q15 : fQ t15 226 o v = some q := by rw [h15]; exact hq
    have ko : kdC t15 o ≠ 0 := by rw [rA_k J15.1]; decide
    have q19 : fQ t19 226 o v = some q := by rw [((g o ko).2.2 226 (by unfold fRn; omega)).2.2.2.1]; exact q15
    obtain ⟨e', -, e2', -, e4'⟩ := id J19.2.2.1
    obtain ⟨lo2, pg2, y1, -, -⟩ := e4' v q hv q19
    have ks : kdC t15 so ≠ 0 := by rw [(rA_B J15.1).1]; decide
    have h9 : fI t19 150 po = fI t19 199 so := r4.trans ((g so ks).2.2 199 (by unfold fRn; omega)).1.symm
    have hlen : (fL t19 148 po).length < 2147483648 := by
      have := J19.2.1.2.2.2
      omega
    refine cc_layPart r2 hv hd.1 r3 r5 hlen y1 (fun S' hF hO => ?_)
    have J' : Jo o so po n 4 S' A := Jo_fin J19 hv q19 y1 hF hO h9
    obtain ⟨⟨a1, a2, a3, a4, a5, a6, a7⟩, a8, a9⟩ := hF
    have hk : PrS S' q v lo2 pg2 := PrS_o ⟨by rw [a1], by rw [a1], by rw [a1]⟩ (by rw [a2]) (by rw [a2]) (by rw [(a8 112 (by unfold qF; omega)).1]) y1
    refine hQ S' lo2 pg2 hk hO J' (sG_c (sG_Rn hR) (by rw [h15, fI_ne (by decide)]) (by rw [h15, fI_ne (by decide)]) (by rw [h15]; rfl) (by rw [h15]; rfl) (by rw [a4]) (by rw [a5])) ?_ ?_ ?_
    · rw [a6, ← hX]
      exact r8
    · rw [a7, ← hX]
      exact r9
    · rw [a3, ((g o ko).2.2 226 (by unfold fRn; omega)).2.2.2.1, h15]
      rfl
theorem uP_none {v : Nat} (hv : v < 4) (h : fQ S 226 o v = none) (h' : ∀ u, u ≠ v → fQ S' 226 o u = fQ S 226 o u) (h2 : fQ S' 226 o v ≠ none) : uP S' o + 1 = uP S o := by
  have c : v = 0 ∨ v = 1 ∨ v = 2 ∨ v = 3 := by omega
  unfold uP
  rcases c with rfl | rfl | rfl | rfl
  · rw [h' 1 (by decide), h' 2 (by decide), h' 3 (by decide), if_pos h, if_neg h2]
    try omega
  · rw [h' 0 (by decide), h' 2 (by decide), h' 3 (by decide), if_pos h, if_neg h2]
    try omega
  · rw [h' 0 (by decide), h' 1 (by decide), h' 3 (by decide), if_pos h, if_neg h2]
    try omega
  · rw [h' 0 (by decide), h' 1 (by decide), h' 2 (by decide), if_pos h, if_neg h2]
    try omega
def sB (lb B1 : Nat × Nat) (S : CS) : Prop := (B1.1 ≤ lb.1 ∧ B1.2 ≤ lb.2) ∧ (szC S ≤ B1.1 ∧ nsC S ≤ B1.2)
/-- a voice that is none -/
theorem pd_bad (hb : hB b lb) {a1 : Int32} (h : Jp b o so po (n + 1) S A) (hvo : v_isVoice a1 = 0) {Q : Nat × Nat → Nat → CS → Prop} {X : Nat × Nat → String → CS → Prop} (hX : ∀ (B : Nat × Nat) (sz ns : Nat), (sz ≤ B.1 → ns ≤ B.2 → Jp b o so po n (rsz S sz ns) A) → X B "java/lang/IllegalArgumentException" (rsz S sz ns)) : ∃ B : Nat × Nat, sB lb B S ∧ (kdC S o = 14) ∧ w_X11_drawnPart B o a1 S (Q B) (X B) := by
  obtain ⟨l1, l2⟩ := Jp_sz hb h
  refine ⟨(szC S + 1, nsC S + 10), ⟨⟨l1, l2⟩, ⟨Nat.le_add_right _ _, Nat.le_add_right _ _⟩⟩, rA_k h.1.1, a_reqVoice ⟨Nat.le_refl _, Nat.add_le_add_left (by decide) _⟩ (fun v hv ev hz => absurd hvo hz) (fun hz sz ns => hX _ sz ns (fun z1 z2 => Jp_rs h z1 z2))⟩
/-- a part that can't be drawn -/
theorem pd_no (hb : hB b lb) (h : Jp b o so po (n + 1) S A) (hv : v < 4) (hd : ¬ zDr A v) {Q : Nat × Nat → Nat → CS → Prop} {X : Nat × Nat → String → CS → Prop} (hX : ∀ (B : Nat × Nat) (sz ns : Nat), (sz ≤ B.1 → ns ≤ B.2 → Jp b o so po n (rsz S sz ns) A) → X B "java/lang/IllegalStateException" (rsz S sz ns)) : ∃ B : Nat × Nat, sB lb B S ∧ (kdC S o = 14) ∧ w_X11_drawnPart B o (nI v) S (Q B) (X B) := by
  obtain ⟨l1, l2⟩ := Jp_sz hb h
  have h1 := h.1.1
  refine ⟨(szC S + 1, nsC S + 10), ⟨⟨l1, l2⟩, ⟨Nat.le_add_right _ _, Nat.le_add_right _ _⟩⟩, rA_k h1, a_reqVoice ⟨Nat.le_refl _, Nat.add_le_add_left (by decide) _⟩ (fun v2 hv2 ev2 hz => ?_) (fun z => ?_)⟩
  · have es : oG (fR S 224 o) = so := by rw [rA_s h1]; rfl
    rw [es]
    refine ⟨rA_k h1, ne_so (rA_s h1), (rA_B h1).1, cc_canDraw (rA_B h1) (rA_M h1) hv (fun z => absurd z hd) (fun _ => ⟨fun _ => ⟨⟨Nat.le_refl _, Nat.add_le_add_left (by decide) _⟩, fun sz ns => hX _ sz ns (fun z1 z2 => Jp_rs h z1 z2)⟩, fun z => absurd rfl z⟩)⟩
  · have h9 := v_out.mpr z
    rcases h9 with h9 | h9
    · exact absurd h9 (nI_pos (by omega))
    · exact absurd (nI_le (a := v) (b := 3) (by omega) (by decide)) h9
/-- a part that can be drawn -/
theorem pd_in (hb : hB b lb) (h : Jp b o so po (n + 1) S A) (hv : v < 4) (hd : zDr A v) {Q : Nat × Nat → Nat → CS → Prop} {X : Nat × Nat → String → CS → Prop} (hQ : ∀ (B : Nat × Nat) (q lo pg : Nat) (S' : CS), PrS S' q v lo pg → PartOK A S' q v lo pg → rA S' A o so po → Jp b o so po n S' A → (szC S' + 1 ≤ B.1 ∧ nsC S' + 6 ≤ B.2) → (∀ sz ns : Nat, sz ≤ B.1 → ns ≤ B.2 → Jp b o so po n (rsz S' sz ns) A) → Q B q S') : ∃ B : Nat × Nat, sB lb B S ∧ (kdC S o = 14) ∧ w_X11_drawnPart B o (nI v) S (Q B) (X B) := by
  have hJ := h.1
  have hJn : Jo o so po n 4 S A := Jo_dn hJ (Nat.le_succ n)
  have h1 := hJ.1
  obtain ⟨m1, m2⟩ := bX_lb hb h
  obtain ⟨x1, x2⟩ := bX_ge (S := S) (A := A) (so := so) (po := po)
  have hvo : ¬ v_isVoice (nI v) = 0 := fun z => by
    have h9 := v_out.mpr z
    rcases h9 with h9 | h9
    · exact absurd h9 (nI_pos (by omega))
    · exact absurd (nI_le (a := v) (b := 3) (by omega) (by decide)) h9
  obtain ⟨x, hx0, hx1, hx2⟩ : ∃ x : Nat, (fQ S 226 o v = none → x = 1) ∧ (fQ S 226 o v ≠ none → x = 0) ∧ x ≤ uP S o := by
    by_cases c : fQ S 226 o v = none
    · refine ⟨1, fun _ => rfl, fun z => absurd c z, ?_⟩
      have c4 : v = 0 ∨ v = 1 ∨ v = 2 ∨ v = 3 := by omega
      unfold uP
      rcases c4 with rfl | rfl | rfl | rfl <;> rw [if_pos c] <;> omega
    · exact ⟨0, fun z => absurd z c, fun _ => rfl, Nat.zero_le _⟩
  have k20 : 20 * x ≤ 20 * uP S o := Nat.mul_le_mul_left 20 hx2
  have k66 : 660 * x ≤ 660 * uP S o := Nat.mul_le_mul_left 660 hx2
  refine ⟨((bX S A so po).1 + 20 * x + 1, (bX S A so po).2 + 660 * x + 10), ⟨⟨by show _ + _ ≤ _; omega, by show _ + _ ≤ _; omega⟩, ⟨by show _ ≤ _ + _; omega, by show _ ≤ _ + _; omega⟩⟩, rA_k h1, a_reqVoice ⟨by show _ ≤ (bX S A so po).1 + 20 * x + 1; omega, by show _ ≤ (bX S A so po).2 + 660 * x + 10; omega⟩ (fun v2 hv2 ev2 hz => ?_) (fun z => absurd z hvo)⟩
  have es : oG (fR S 224 o) = so := by rw [rA_s h1]; rfl
  have cl : cNF 7 ≤ 20 ∧ cNE 7 = 5 := by decide +kernel
  rw [es]
  refine ⟨rA_k h1, ne_so (rA_s h1), (rA_B h1).1, cc_canDraw (rA_B h1) (rA_M h1) hv (fun _ => ⟨fun z => absurd z one_ne, fun _ => ⟨vp_nI (n := 4) hv (by decide), fun t8 => ∃ q, fQ t8 226 o v = some q ∧ Jo o so po n 4 t8 A ∧ fL t8 148 po = fL S 148 po ∧ fC t8 148 po = fC S 148 po ∧ fI t8 150 po = fI S 150 po ∧ fI t8 199 so = fI S 199 so ∧ szC t8 ≤ szC S + 20 * x ∧ nsC t8 ≤ nsC S + 660 * x ∧ uP t8 o + x = uP S o, fun t8 h8 => ?_, fun hno => ?_, fun hso => ?_⟩⟩) (fun z => absurd hd z)⟩
  · obtain ⟨q, k1, k2, k3, k4, k5, k6, k7, k8, k9⟩ := h8
    obtain ⟨w1, w2⟩ := bX_mono (A := A) k5 k6 k3 k4 k7 k8
    refine cc_drawn2 k2 hv hd k1 (by show _ ≤ (bX S A so po).1 + 20 * x + 1; omega) (by show _ ≤ (bX S A so po).2 + 660 * x + 10; omega) (fun S' lo pg p1 p2 p3 p4 p5 p6 p7 => ?_)
    have hJr : ∀ sz ns : Nat, sz ≤ (bX S A so po).1 + 20 * x + 1 → ns ≤ (bX S A so po).2 + 660 * x + 10 → Jp b o so po n (rsz S' sz ns) A := fun sz ns z1 z2 => ⟨Jo_rsz p3, bX_Jr (k := 1) h (sG_c p4 k5 k6 k3 k4 rfl rfl) (x := x) (by rw [uP_q p7]; exact k9) z1 z2⟩
    exact hQ _ q lo pg S' p1 p2 p3.1 (hJr (szC S') (nsC S') (by omega) (by omega)) ⟨by show _ ≤ (bX S A so po).1 + 20 * x + 1; omega, by show _ ≤ (bX S A so po).2 + 660 * x + 10; omega⟩ hJr
  · rw [nI_clamp (show v < 2147483648 by omega)] at hno
    have ex := hx0 hno
    refine ⟨⟨by show _ ≤ (bX S A so po).1 + 20 * x + 1; omega, by show _ ≤ (bX S A so po).2 + 660 * x + 10; omega⟩, fun f0 t39 h39 => ?_⟩
    have gA : Eqf tT S t39 := by rw [h39]; exact Eqf_newO Eqf_rfl f0
    have kA : kdC t39 (szC S) = 107 := by
      rw [h39, s_newO_kdC, va_up_at, if_pos rfl, cl.2]
      rfl
    have zA : szC t39 = szC S + 1 := by rw [h39, s_newO_szC]
    have nA : nsC t39 = nsC S + cNF 7 := by rw [h39, s_newO_nsC]
    refine i_X4 gA f0 kA zA ⟨by show _ ≤ (bX S A so po).1 + 20 * x + 1; omega, by show _ ≤ (bX S A so po).2 + 660 * x + 10; omega⟩ (fun t40 lo pg g40 p40 e40 l40 k40 z40 n40 => ⟨p40.1, vp_nI (n := 4) hv (by decide), fun t43 h43 => ?_⟩)
    have kp : kdC S po ≠ 0 := by rw [rA_kp h1]; decide
    have ks : kdC S so ≠ 0 := by rw [(rA_B h1).1]; decide
    have ko : kdC S o ≠ 0 := by rw [rA_k h1]; decide
    have eQ : fQ t40 226 o = fQ S 226 o := ((g40 o ko).2.2 226 trivial).2.2.2.1
    have eq3 : ∀ u, fQ t43 226 o u = if u = v then some (szC S) else fQ S 226 o u := fun u => by
      rw [h43]
      show up2 (fQ t40) 226 o (va_up (fQ t40 226 o) (nI v).toNatClampNeg (some (szC S))) 226 o u = _
      rw [up2_is, nI_clamp (by omega), va_up_at, eQ]
    refine ⟨szC S, ?_, ?_, ?_, ?_, ?_, ?_, ?_, ?_, ?_⟩
    · rw [eq3, if_pos rfl]
    · rw [h43]
      exact Jo_mk hJn hv hno g40 p40 e40 l40 k40
    · rw [h43]
      exact ((g40 po kp).2.2 148 trivial).2.2.2.2.1
    · rw [h43]
      exact ((g40 po kp).2.2 148 trivial).2.2.2.2.2
    · rw [h43]
      exact ((g40 po kp).2.2 150 trivial).1
    · rw [h43]
      exact ((g40 so ks).2.2 199 trivial).1
    · have : szC t43 = szC t40 := by rw [h43]; rfl
      omega
    · have : nsC t43 = nsC t40 := by rw [h43]; rfl
      omega
    · rw [ex]
      exact uP_none hv hno (fun u hu => by rw [eq3, if_neg hu]) (by rw [eq3, if_pos rfl]; exact fun z => (by cases z))
  · rw [nI_clamp (show v < 2147483648 by omega)] at hso
    obtain ⟨q, hq⟩ : ∃ q, fQ S 226 o v = some q := by
      cases hqq : fQ S 226 o v with
      | none => exact absurd hqq hso
      | some q => exact ⟨q, rfl⟩
    have ex := hx1 hso
    exact ⟨q, hq, hJn, rfl, rfl, rfl, rfl, Nat.le_add_right _ _, Nat.le_add_right _ _, by rw [ex]; rfl⟩
end DX
