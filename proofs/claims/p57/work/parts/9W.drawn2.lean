/-! A PART IS DRAWN, IN THE CLASS -/
section DW
variable {A t : MS} {S S' S1 : CS} {o so po n w q v lo pg e : Nat}
theorem PlayOK_E {P : Nat → Prop} (g : Eqf P S S') (hP : ∀ f, (144 ≤ f ∧ f ≤ 149) ∨ (208 ≤ f ∧ f ≤ 212) → P f) (kp : kdC S po ≠ 0) (ro : rowOk S po) (h : PlayOK A S po) : PlayOK A S' po := by
  have e1 := (g po kp).2.2
  obtain ⟨⟨a1, a2, a3⟩, G, b1, b2, b3, b4, b5, b6⟩ := h
  have eL : fL S' 148 po = fL S 148 po := (e1 148 (hP 148 (by omega))).2.2.2.2.1
  refine ⟨⟨(e1 146 (hP 146 (by omega))).1.trans a1, fun p hp => ?_, (e1 147 (hP 147 (by omega))).1.trans a3⟩, G, (e1 149 (hP 149 (by omega))).1.trans b1, by rw [eL]; exact b2, b3, b4, fun k hk => ?_, b6⟩
  · rw [(e1 144 (hP 144 (by omega))).2.1, (e1 145 (hP 145 (by omega))).2.1]
    exact a2 p hp
  · rw [eL]
    have h5 := b5 k hk
    have kq : kdC S (gn (fL S 148 po) k) ≠ 0 := by
      rw [ro.1 k (by omega)]
      decide
    have e2 := (g _ kq).2.2
    unfold sFld at h5 ⊢
    rw [(e2 208 (hP 208 (by omega))).1, (e2 209 (hP 209 (by omega))).1, (e2 210 (hP 210 (by omega))).1, (e2 211 (hP 211 (by omega))).1, (e2 212 (hP 212 (by omega))).1]
    exact h5
/-- a part was made -/
theorem Jo_mk (h : Jo o so po n 4 S A) (hv : v < 4) (hq0 : fQ S 226 o v = none) (g : Eqf tT S S1) (hp : PrS S1 q v lo pg) (h121 : fI S1 121 q = -1) (hl : kdC S lo = 0) (hg : kdC S pg = 0) : Jo o so po n 4 (usQ S1 226 o (nI v) (some q)) A := by
  obtain ⟨h1, ⟨h2, h3⟩, ⟨e, e1, e2, e3, e4⟩, h5, h6⟩ := h
  have ko : kdC S o ≠ 0 := by rw [rA_k h1]; decide
  have kp : kdC S po ≠ 0 := by rw [rA_kp h1]; decide
  have ks : kdC S so ≠ 0 := by rw [(rA_B h1).1]; decide
  have eL : fL S1 148 po = fL S 148 po := ((g po kp).2.2 148 trivial).2.2.2.2.1
  have eC : fC S1 148 po = fC S 148 po := ((g po kp).2.2 148 trivial).2.2.2.2.2
  have e150 : fI S1 150 po = fI S 150 po := ((g po kp).2.2 150 trivial).1
  have e199 : fI S1 199 so = fI S 199 so := ((g so ks).2.2 199 trivial).1
  have eQ : fQ S1 226 o = fQ S 226 o := ((g o ko).2.2 226 trivial).2.2.2.1
  have eQ2 : ∀ u, fQ (usQ S1 226 o (nI v) (some q)) 226 o u = if u = v then some q else fQ S 226 o u := fun u => by
    show up2 (fQ S1) 226 o (va_up (fQ S1 226 o) (nI v).toNatClampNeg (some q)) 226 o u = _
    rw [up2_is, nI_clamp (by omega), va_up_at, eQ]
  refine ⟨rA_c h1 (Eqf_usQ (Eqf_sub (fun _ _ => trivial) g) (Or.inl (by unfold fTo; omega))) (Ag_rfl A), ⟨?_, ?_⟩, ⟨e, e1, e199.trans e2, by show eO (fI S1 150 po) e; rw [e150]; exact e3, fun u q2 hu hq2 => ?_⟩, fun z => ?_, fun u u2 q1 q2 hu hu2 hne hq1 hq2 => ?_⟩
  · have : rowOk S1 po := by
      unfold rowOk at h2 ⊢
      rw [eL]
      refine ⟨fun k hk => ?_, h2.2⟩
      have := h2.1 k hk
      exact (g _ (by rw [this]; decide)).1.trans this
    exact this
  · have : capOk S1 po := by
      unfold capOk at h3 ⊢
      rw [eL, eC]
      exact h3
    exact this
  · rw [eQ2] at hq2
    by_cases c : u = v
    · rw [if_pos c] at hq2
      obtain rfl := Option.some.inj hq2
      subst c
      refine ⟨lo, pg, hp, Or.inl h121, fun _ z => ?_⟩
      have z2 : fI S1 121 q = fI S1 199 so := z
      rw [h121, e199, e2] at z2
      exact absurd z2 (nI_m1 (by omega))
    · rw [if_neg c] at hq2
      obtain ⟨lo2, pg2, p1, p2, p3⟩ := e4 u q2 hu hq2
      have k1 := (PrS_kd p1).1
      have e121 : fI S1 121 q2 = fI S 121 q2 := ((g q2 k1).2.2 121 trivial).1
      have hP : PrS S1 q2 u lo2 pg2 := PrS_E g ⟨trivial, trivial, trivial⟩ p1
      refine ⟨lo2, pg2, hP, by show eO (fI S1 121 q2) e; rw [e121]; exact p2, fun hw z => ?_⟩
      have z2 : fI S1 121 q2 = fI S1 199 so := z
      rw [e121, e199] at z2
      obtain ⟨y1, y2⟩ := p3 hw z2
      have hO : PartOK A S1 q2 u lo2 pg2 := PartOK_E g (fun _ _ => trivial) p1 y2
      exact ⟨by show fI S1 150 po = fI S1 199 so; rw [e150, e199]; exact y1, hO⟩
  · have z2 : fI S1 150 po = fI S1 199 so := z
    rw [e150, e199] at z2
    have : PlayOK A S1 po := PlayOK_E g (fun _ _ => trivial) kp h2 (h5 z2)
    exact this
  · rw [eQ2] at hq1 hq2
    have hnew : ∀ u q3, u < 4 → fQ S 226 o u = some q3 → fR S1 119 q3 ≠ some lo ∧ fR S1 120 q3 ≠ some pg := fun u q3 hu hq3 => by
      obtain ⟨lo3, pg3, p1, -, -⟩ := e4 u q3 hu hq3
      have k1 := PrS_kd p1
      obtain ⟨y1, y2, y3, y4, y5, y6⟩ := p1
      rw [((g q3 k1.1).2.2 119 trivial).2.2.1, ((g q3 k1.1).2.2 120 trivial).2.2.1, y2, y3]
      refine ⟨fun z => ?_, fun z => ?_⟩
      · rw [← Option.some.inj z] at hl
        exact k1.2.1 hl
      · rw [← Option.some.inj z] at hg
        exact k1.2.2 hg
    show fR S1 119 q1 ≠ fR S1 119 q2 ∧ fR S1 120 q1 ≠ fR S1 120 q2
    by_cases c : u = v
    · have c2 : ¬ u2 = v := fun z => hne (c.trans z.symm)
      rw [if_pos c] at hq1
      rw [if_neg c2] at hq2
      obtain rfl := Option.some.inj hq1
      obtain ⟨y1, y2⟩ := hnew u2 q2 hu2 hq2
      rw [hp.2.1, hp.2.2.1]
      exact ⟨y1.symm, y2.symm⟩
    · rw [if_neg c] at hq1
      by_cases c2 : u2 = v
      · rw [if_pos c2] at hq2
        obtain rfl := Option.some.inj hq2
        obtain ⟨y1, y2⟩ := hnew u q1 hu hq1
        rw [hp.2.1, hp.2.2.1]
        exact ⟨y1, y2⟩
      · rw [if_neg c2] at hq2
        obtain ⟨lo1, pg1, p1, -, -⟩ := e4 u q1 hu hq1
        obtain ⟨lo2, pg2, p12, -, -⟩ := e4 u2 q2 hu2 hq2
        have k1 := (PrS_kd p1).1
        have k2 := (PrS_kd p12).1
        rw [((g q1 k1).2.2 119 trivial).2.2.1, ((g q1 k1).2.2 120 trivial).2.2.1, ((g q2 k2).2.2 119 trivial).2.2.1, ((g q2 k2).2.2 120 trivial).2.2.1]
        exact h6 u u2 q1 q2 hu hu2 hne hq1 hq2
theorem PrS_q {q2 u lo2 pg2 : Nat} (h : PrS S q v lo pg) (g : PrS S q2 u lo2 pg2) (hv : v < 4) (hu : u < 4) (hne : u ≠ v) : q2 ≠ q := fun z => by
  rw [z] at g
  have := h.2.2.2.2.2.symm.trans g.2.2.2.2.2
  exact hne ((nI_eq (by omega) (by omega)).mp this).symm
/-- its edition was told -/
theorem Jo_ed (h : Jo o so po n 4 S A) (hv : v < 4) (hq : fQ S 226 o v = some q) : Jo o so po n v (usI S 121 q (fI S 199 so)) A := by
  obtain ⟨h1, ⟨h2, h3⟩, ⟨e, e1, e2, e3, e4⟩, h5, h6⟩ := h
  have kp : kdC S po ≠ 0 := by rw [rA_kp h1]; decide
  obtain ⟨lo, pg, p1, p2, p3⟩ := e4 v q hv hq
  have hE : Eqf (fun f => f ≠ 121) S (usI S 121 q (fI S 199 so)) := Eqf_usI Eqf_rfl (Or.inl (fun z => z rfl))
  refine ⟨rA_c h1 (Eqf_sub (fun f z => by unfold fTo at z; omega) hE) (Ag_rfl A), ⟨h2, h3⟩, ⟨e, e1, by rw [fI_ne (by decide)]; exact e2, by rw [fI_ne (by decide)]; exact e3, fun u q2 hu hq2 => ?_⟩, fun z => ?_, h6⟩
  · by_cases c : u = v
    · subst c
      have hq3 : fQ S 226 o u = some q2 := hq2
      rw [hq] at hq3
      obtain rfl := Option.some.inj hq3
      refine ⟨lo, pg, PrS_E hE ⟨by decide, by decide, by decide⟩ p1, ?_, fun z => absurd rfl z⟩
      rw [fI_at, if_pos rfl, e2]
      exact Or.inr ⟨e, Nat.le_refl _, rfl⟩
    · obtain ⟨lo2, pg2, y1, y2, y3⟩ := e4 u q2 hu hq2
      have hne : q2 ≠ q := PrS_q p1 y1 hv hu c
      refine ⟨lo2, pg2, PrS_E hE ⟨by decide, by decide, by decide⟩ y1, ?_, fun _ z => ?_⟩
      · rw [fI_at, if_neg hne]
        exact y2
      · rw [fI_at, if_neg hne, fI_ne (by decide)] at z
        obtain ⟨x1, x2⟩ := y3 (by omega) z
        exact ⟨by rw [fI_ne (by decide), fI_ne (by decide)]; exact x1, PartOK_E hE (fun f z => by unfold qF at z; omega) y1 x2⟩
  · rw [fI_ne (by decide), fI_ne (by decide)] at z
    exact PlayOK_E hE (fun f z => by omega) kp h2 (h5 z)
/-- it was laid -/
theorem Jo_fin (h : Jo o so po n v S A) (hv : v < 4) (hq : fQ S 226 o v = some q) (hp : PrS S q v lo pg) (hF : Fq q lo pg S S') (hO : PartOK A S' q v lo pg) (h9 : fI S 150 po = fI S 199 so) : Jo o so po n 4 S' A := by
  obtain ⟨h1, ⟨h2, h3⟩, ⟨e, e1, e2, e3, e4⟩, h5, h6⟩ := h
  have kp : kdC S po ≠ 0 := by rw [rA_kp h1]; decide
  obtain ⟨⟨a1, a2, a3, a4, a5, a6, a7⟩, a8, a9⟩ := id hF
  have e199 : fI S' 199 = fI S 199 := (a8 199 (by unfold qF; omega)).1
  have e150 : fI S' 150 = fI S 150 := (a8 150 (by unfold qF; omega)).1
  have e121 : fI S' 121 = fI S 121 := (a8 121 (by unfold qF; omega)).1
  have e112 : fI S' 112 = fI S 112 := (a8 112 (by unfold qF; omega)).1
  have hE : Eqf (fun f => ¬ qF f) S S' := Eqf_Fq hF (fun _ z => z) (fun z => z (by unfold qF; omega))
  refine ⟨rA_c h1 (Eqf_Fq hF (fun f z => by unfold fTo at z; unfold qF; omega) (by unfold fTo; omega)) (Ag_rfl A), ⟨rowOk_c h2 a4 a1, ?_⟩, ⟨e, e1, by rw [e199]; exact e2, by rw [e150]; exact e3, fun u q2 hu hq2 => ?_⟩, fun z => ?_, ?_⟩
  · unfold capOk at h3 ⊢
    rw [a4, a5]
    exact h3
  · rw [a3] at hq2
    by_cases c : u = v
    · subst c
      rw [hq] at hq2
      obtain rfl := Option.some.inj hq2
      obtain ⟨lo2, pg2, y1, y2, -⟩ := e4 u q hu hq
      refine ⟨lo, pg, PrS_o ⟨by rw [a1], by rw [a1], by rw [a1]⟩ (by rw [a2]) (by rw [a2]) (by rw [e112]) hp, by rw [e121]; exact y2, fun _ _ => ⟨by rw [e150, e199]; exact h9, hO⟩⟩
    · obtain ⟨lo2, pg2, y1, y2, y3⟩ := e4 u q2 hu hq2
      have hne : q2 ≠ q := PrS_q hp y1 hv hu c
      obtain ⟨d1, d2⟩ := h6 u v q2 q hu hv c hq2 hq
      obtain ⟨f1, f2, f3, f4, f5, f6⟩ := id hp
      obtain ⟨g1, g2, g3, g4, g5, g6⟩ := id y1
      rw [g2, f2] at d1
      rw [g3, f3] at d2
      have nl : lo2 ≠ lo := fun z => d1 (by rw [z])
      have ng : pg2 ≠ pg := fun z => d2 (by rw [z])
      have ks : ∀ x y : Nat, kdC S x ≠ kdC S y → x ≠ y := fun x y hk z => hk (by rw [z])
      refine ⟨lo2, pg2, PrS_o ⟨by rw [a1], by rw [a1], by rw [a1]⟩ (by rw [a2]) (by rw [a2]) (by rw [e112]) y1, by rw [e121]; exact y2, fun _ z => ?_⟩
      rw [e121, e199] at z
      obtain ⟨x1, x2⟩ := y3 c z
      refine ⟨by rw [e150, e199]; exact x1, PartOK_o (fun x hx f _ => ?_) x2⟩
      rcases hx with rfl | rfl | rfl
      · exact (a9 x hne (ks _ _ (by rw [g1, f4]; decide)) (ks _ _ (by rw [g1, f5]; decide))).2 f
      · exact (a9 x (ks _ _ (by rw [g4, f1]; decide)) nl (ks _ _ (by rw [g4, f5]; decide))).2 f
      · exact (a9 x (ks _ _ (by rw [g5, f1]; decide)) (ks _ _ (by rw [g5, f4]; decide)) ng).2 f
  · exact PlayOK_E hE (fun f z => by unfold qF; omega) kp h2 (h5 h9)
  · intro u u2 q1 q2 hu hu2 hne hq1 hq2
    rw [a3] at hq1 hq2
    rw [a2]
    exact h6 u u2 q1 q2 hu hu2 hne hq1 hq2
end DW
