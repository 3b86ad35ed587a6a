/-! A PART IS MADE, TO THE END -/
section MP
variable {S0 S : CS} {o v : Nat} {B : Nat × Nat}
theorem i_X4 {Q : CS → Prop} {X : String → CS → Prop} (h : Eqf tT S0 S) (ho : kdC S0 o = 0) (hk : kdC S o = 107) (hz : szC S = o + 1) (hr : szC S + 19 ≤ B.1 ∧ nsC S + 640 ≤ B.2) (hQ : ∀ S' lo pg, Eqf tT S0 S' → PrS S' o v lo pg → fI S' 121 o = -1 → kdC S0 lo = 0 → kdC S0 pg = 0 → szC S' = szC S + 19 → nsC S' ≤ nsC S + 640 → Q S') : w_X4_init B o (nI v) S Q X := by
  have c4 : cLN 113 = 24 ∧ cLN 114 = 24 ∧ cLN 115 = 24 ∧ cLN 116 = 24 ∧ cLN 117 = 24 ∧ cNF 4 = 4 ∧ cNF 6 = 11 ∧ cNE 4 = 3 ∧ cNE 6 = 9 := by decide +kernel
  have c5 : (cEI 113 = 0 ∧ cOF 113 = 1) ∧ (cEI 114 = 1 ∧ cOF 114 = 2) ∧ (cEI 115 = 2 ∧ cOF 115 = 3) ∧ (cEI 116 = 3 ∧ cOF 116 = 4) ∧ (cEI 117 = 4 ∧ cOF 117 = 5) := by decide +kernel
  obtain ⟨a0, a1, a2, a3, a4⟩ := c5
  obtain ⟨l0, l1, l2, l3, l4, l5, l6, l7, l8⟩ := c4
  have w : attV 107 7 = 207 ∧ attV 207 7 = 307 ∧ attV 307 7 = 407 ∧ attV 407 7 = 507 ∧ attV 507 7 = 7 := by decide
  obtain ⟨v0, v1, v2, v3, v4⟩ := w
  unfold w_X4_init
  rw [l0, l1, l2, l3, l4, l5, l6]
  refine at_1 (i := 0) h ho hk hz ⟨by omega, by omega⟩ ⟨by decide, by decide, a0.1, a0.2⟩ (fun S1 g1 k1 z1 n1 => ?_)
  rw [v0] at k1
  refine at_1 (i := 1) g1 ho k1 z1 ⟨by omega, by omega⟩ ⟨by decide, by decide, a1.1, a1.2⟩ (fun S2 g2 k2 z2 n2 => ?_)
  rw [v1] at k2
  refine at_1 (i := 2) g2 ho k2 z2 ⟨by omega, by omega⟩ ⟨by decide, by decide, a2.1, a2.2⟩ (fun S3 g3 k3 z3 n3 => ?_)
  rw [v2] at k3
  refine at_1 (i := 3) g3 ho k3 z3 ⟨by omega, by omega⟩ ⟨by decide, by decide, a3.1, a3.2⟩ (fun S4 g4 k4 z4 n4 => ?_)
  rw [v3] at k4
  refine at_1 (i := 4) g4 ho k4 z4 ⟨by omega, by omega⟩ ⟨by decide, by decide, a4.1, a4.2⟩ (fun S5 g5 k5 z5 n5 => ?_)
  rw [v4] at k5
  refine ⟨⟨by omega, by omega⟩, fun f5 t18 h18 => ?_⟩
  have z5' : szC S5 = o + 6 := by omega
  have gA : Eqf tT S5 t18 := by rw [h18]; exact Eqf_newO Eqf_rfl f5
  have kA : kdC t18 (szC S5) = 104 := by
    rw [h18, s_newO_kdC, va_up_at, if_pos rfl, l7]
    rfl
  have zA : szC t18 = szC S5 + 1 := by rw [h18, s_newO_szC]
  have nA : nsC t18 = nsC S5 + 4 := by rw [h18, s_newO_nsC, l5]
  refine i_X1 gA f5 kA zA ⟨by omega, by omega⟩ (fun S6 g6 k6 z6 n6 => ?_)
  have ko6 : kdC S6 o = 7 := (g6 o (by rw [k5]; decide)).1.trans k5
  refine ⟨by show kdC S6 o % 100 = 7; rw [ko6], fun t21 h21 => ?_⟩
  have g05 : Eqf tT S0 S6 := Eqf_trans g5 g6
  have g21 : Eqf tT S0 t21 := by rw [h21]; exact Eqf_usR g05 (Or.inr ho)
  have k21 : kdC t21 = kdC S6 := by rw [h21]; rfl
  have z21 : szC t21 = o + 10 := by
    have e : szC t21 = szC S6 := by rw [h21]; rfl
    omega
  have n21 : nsC t21 = nsC S6 := by rw [h21]; rfl
  have r21 : fR t21 119 o = some (szC S5) := by rw [h21]; exact up2_is
  refine ⟨⟨by omega, by omega⟩, fun f21 t24 h24 => ?_⟩
  have gB : Eqf tT t21 t24 := by rw [h24]; exact Eqf_newO Eqf_rfl f21
  have kB : kdC t24 (szC t21) = 106 := by
    rw [h24, s_newO_kdC, va_up_at, if_pos rfl, l8]
    rfl
  have zB : szC t24 = szC t21 + 1 := by rw [h24, s_newO_szC]
  have nB : nsC t24 = nsC t21 + 11 := by rw [h24, s_newO_nsC, l6]
  refine i_X3 gB f21 kB zB ⟨by omega, by omega⟩ (fun S7 g7 k7 z7 n7 => ?_)
  have ko7 : kdC S7 o = 7 := (g7 o (by rw [k21, ko6]; decide)).1.trans (by rw [k21]; exact ko6)
  have kl7 : kdC S7 (szC S5) = 4 := (g7 (szC S5) (by rw [k21, k6]; decide)).1.trans (by rw [k21]; exact k6)
  have r7 : fR S7 119 o = some (szC S5) := ((g7 o (by rw [k21, ko6]; decide)).2.2 119 trivial).2.2.1.trans r21
  refine ⟨by show kdC S7 o % 100 = 7; rw [ko7], fun t27 h27 t28 h28 t29 h29 => ?_⟩
  have g29 : Eqf tT S0 t29 := by
    rw [h29, h28, h27]
    exact Eqf_usI (Eqf_usI (Eqf_usR (Eqf_trans g21 g7) (Or.inr ho)) (Or.inr ho)) (Or.inr ho)
  have k29 : kdC t29 = kdC S7 := by rw [h29, h28, h27]; rfl
  have z29 : szC t29 = szC S7 := by rw [h29, h28, h27]; rfl
  have n29 : nsC t29 = nsC S7 := by rw [h29, h28, h27]; rfl
  refine hQ t29 (szC S5) (szC t21) g29 ⟨by rw [k29]; exact ko7, ?_, ?_, by rw [k29]; exact kl7, by rw [k29]; exact k7, ?_⟩ ?_ ?_ ?_ ?_ ?_
  · rw [h29, h28, h27]
    show up2 (fR S7) 120 o (some (szC t21)) 119 o = _
    rw [up2_no (fun z => by omega)]
    exact r7
  · rw [h29, h28, h27]
    exact up2_is
  · rw [h29, fI_at, if_pos rfl]
  · rw [h29, fI_ne (by decide), h28, fI_at, if_pos rfl]
  · refine Classical.byContradiction fun z => ?_
    have := (g5 (szC S5) z).1
    rw [f5] at this
    exact z this.symm
  · refine Classical.byContradiction fun z => ?_
    have := (g21 (szC t21) z).1
    rw [f21] at this
    exact z this.symm
  · omega
  · omega
end MP
