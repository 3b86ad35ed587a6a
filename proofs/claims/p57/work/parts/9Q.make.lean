/-! A PART IS MADE -/
def tT (_ : Nat) : Prop := True
section MK
variable {S0 S : CS} {o ci f sl k i : Nat} {B : Nat × Nat} {K : CS → Prop}
theorem at_1 (h : Eqf tT S0 S) (ho : kdC S0 o = 0) (hk : kdC S o = k) (hz : szC S = o + i + 1) (hr : szC S + 1 ≤ B.1 ∧ nsC S + sl ≤ B.2) (c : k % 100 = ci ∧ 100 ≤ k ∧ cEI f = k / 100 - 1 ∧ cOF f = i + 1) (hK : ∀ S', Eqf tT S0 S' → kdC S' o = attV k ci → szC S' = o + (i + 1) + 1 → nsC S' = nsC S + sl → K S') : aOK S f o ci ∧ (szC S + 1 ≤ B.1 ∧ nsC S + sl ≤ B.2) ∧ ∀ t, t = uat S f o ci sl → K t := by
  obtain ⟨c1, c2, c3, c4⟩ := c
  refine ⟨⟨by rw [hk]; exact c1, by rw [hk]; exact c2, by rw [hk]; exact c3, by omega⟩, hr, fun t ht => ?_⟩
  rw [ht]
  refine hK _ (Eqf_uat h ho) ?_ ?_ rfl
  · rw [s_uat_kdC, va_up_at, if_pos rfl, hk]
  · rw [s_uat_szC]
    omega
theorem i_X1 {Q : CS → Prop} {X : String → CS → Prop} (h : Eqf tT S0 S) (ho : kdC S0 o = 0) (hk : kdC S o = 104) (hz : szC S = o + 1) (hr : szC S + 3 ≤ B.1 ∧ nsC S + 74 ≤ B.2) (hQ : ∀ S', Eqf tT S0 S' → kdC S' o = 4 → szC S' = o + 4 → nsC S' = nsC S + 74 → Q S') : w_X1_init B o S Q X := by
  have c4 : cLN 64 = 24 ∧ cLN 66 = 25 ∧ cLN 67 = 25 := by decide +kernel
  have c5 : (cEI 64 = 0 ∧ cOF 64 = 1) ∧ (cEI 66 = 1 ∧ cOF 66 = 2) ∧ (cEI 67 = 2 ∧ cOF 67 = 3) := by decide +kernel
  have v1 : attV 104 4 = 204 := by decide
  have v2 : attV 204 4 = 304 := by decide
  have v3 : attV 304 4 = 4 := by decide
  unfold w_X1_init
  rw [c4.1, c4.2.1, c4.2.2]
  refine at_1 (i := 0) h ho hk hz ⟨by omega, by omega⟩ ⟨by decide, by decide, c5.1.1, c5.1.2⟩ (fun S1 g1 k1 z1 n1 => ?_)
  rw [v1] at k1
  refine at_1 (i := 1) g1 ho k1 z1 ⟨by omega, by omega⟩ ⟨by decide, by decide, c5.2.1.1, c5.2.1.2⟩ (fun S2 g2 k2 z2 n2 => ?_)
  rw [v2] at k2
  refine at_1 (i := 2) g2 ho k2 z2 ⟨by omega, by omega⟩ ⟨by decide, by decide, c5.2.2.1, c5.2.2.2⟩ (fun S3 g3 k3 z3 n3 => ?_)
  rw [v3] at k3
  exact hQ S3 g3 k3 (by omega) (by omega)
theorem i_X3 {Q : CS → Prop} {X : String → CS → Prop} (h : Eqf tT S0 S) (ho : kdC S0 o = 0) (hk : kdC S o = 106) (hz : szC S = o + 1) (hr : szC S + 9 ≤ B.1 ∧ nsC S + 416 ≤ B.2) (hQ : ∀ S', Eqf tT S0 S' → kdC S' o = 6 → szC S' = o + 10 → nsC S' = nsC S + 416 → Q S') : w_X3_init B o S Q X := by
  have c4 : cLN 96 = 48 ∧ cLN 97 = 48 ∧ cLN 99 = 24 ∧ cLN 101 = 24 ∧ cLN 102 = 24 ∧ cLN 103 = 24 ∧ cLN 104 = 24 ∧ cLN 105 = 100 ∧ cLN 106 = 100 := by decide +kernel
  have c5 : (cEI 96 = 0 ∧ cOF 96 = 1) ∧ (cEI 97 = 1 ∧ cOF 97 = 2) ∧ (cEI 99 = 2 ∧ cOF 99 = 3) ∧ (cEI 101 = 3 ∧ cOF 101 = 4) ∧ (cEI 102 = 4 ∧ cOF 102 = 5) ∧ (cEI 103 = 5 ∧ cOF 103 = 6) ∧ (cEI 104 = 6 ∧ cOF 104 = 7) ∧ (cEI 105 = 7 ∧ cOF 105 = 8) ∧ (cEI 106 = 8 ∧ cOF 106 = 9) := by decide +kernel
  obtain ⟨a0, a1, a2, a3, a4, a5, a6, a7, a8⟩ := c5
  obtain ⟨l0, l1, l2, l3, l4, l5, l6, l7, l8⟩ := c4
  have v : attV 106 6 = 206 ∧ attV 206 6 = 306 ∧ attV 306 6 = 406 ∧ attV 406 6 = 506 ∧ attV 506 6 = 606 ∧ attV 606 6 = 706 ∧ attV 706 6 = 806 ∧ attV 806 6 = 906 ∧ attV 906 6 = 6 := by decide
  obtain ⟨v0, v1, v2, v3, v4, v5, v6, v7, v8⟩ := v
  unfold w_X3_init
  rw [l0, l1, l2, l3, l4, l5, l6, l7, l8]
  refine at_1 (i := 0) h ho hk hz ⟨by omega, by omega⟩ ⟨by decide, by decide, a0.1, a0.2⟩ (fun S1 g1 k1 z1 n1 => ?_)
  rw [v0] at k1
  refine at_1 (i := 1) g1 ho k1 z1 ⟨by omega, by omega⟩ ⟨by decide, by decide, a1.1, a1.2⟩ (fun S2 g2 k2 z2 n2 => ?_)
  rw [v1] at k2
  refine at_1 (i := 2) g2 ho k2 z2 ⟨by omega, by omega⟩ ⟨by decide, by decide, a2.1, a2.2⟩ (fun S3 g3 k3 z3 n3 => ?_)
  rw [v2] at k3
  refine at_1 (i := 3) g3 ho k3 z3 ⟨by omega, by omega⟩ ⟨by decide, by decide, a3.1, a3.2⟩ (fun S4 g4 k4 z4 n4 => ?_)
  rw [v3] at k4
  refine at_1 (i := 4) g4 ho k4 z4 ⟨by omega, by omega⟩ ⟨by decide, by decide, a4.1, a4.2⟩ (fun S5 g5 k5 z5 n5 => ?_)
  rw [v4] at k5
  refine at_1 (i := 5) g5 ho k5 z5 ⟨by omega, by omega⟩ ⟨by decide, by decide, a5.1, a5.2⟩ (fun S6 g6 k6 z6 n6 => ?_)
  rw [v5] at k6
  refine at_1 (i := 6) g6 ho k6 z6 ⟨by omega, by omega⟩ ⟨by decide, by decide, a6.1, a6.2⟩ (fun S7 g7 k7 z7 n7 => ?_)
  rw [v6] at k7
  refine at_1 (i := 7) g7 ho k7 z7 ⟨by omega, by omega⟩ ⟨by decide, by decide, a7.1, a7.2⟩ (fun S8 g8 k8 z8 n8 => ?_)
  rw [v7] at k8
  refine at_1 (i := 8) g8 ho k8 z8 ⟨by omega, by omega⟩ ⟨by decide, by decide, a8.1, a8.2⟩ (fun S9 g9 k9 z9 n9 => ?_)
  rw [v8] at k9
  exact hQ S9 g9 k9 (by omega) (by omega)
end MK
