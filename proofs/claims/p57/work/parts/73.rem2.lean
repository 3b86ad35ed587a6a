/-! remove, in the class -/
def fRm (f : Nat) : Prop := f ≠ 176 ∧ f ≠ 177 ∧ f ≠ 199 ∧ f ≠ 133
section ID
variable {S S' : CS} {t t' : MS} {o so po v i j np : Nat}
theorem rA_rem (hA : rA S t o so po) (hv : v < 4) (hi : i < zN t) (hj : j < zE t v i) (hnp : npS S so = np)
    (g : Eqf fRm S S') (hL : ∀ q, kdC S q ≠ 0 → fL S' 176 q = if q = rwL S so v i then (fL S 176 (rwL S so v i)).eraseIdx j else fL S 176 q) (hC : ∀ q, kdC S q ≠ 0 → fC S' 176 q = fC S 176 q) (h177 : ∀ q, kdC S q ≠ 0 → fI S' 177 q = if q = rwL S so v i then fI S 177 (rwL S so v i) - nI (zK t v i j) else fI S 177 q)
    (h133 : ∀ k, k < np → fI S' 133 (phL S so k) = t'.2 20 k) (hI : Rem t t' v i j np) : rA S' t' o so po := by
  have hB := rA_B hA
  have hM := rA_M hA
  have hn := cc_n hB hM
  have hn24 := hM.2.1
  have hso : kdC S so ≠ 0 := by rw [hB.1]; decide
  obtain ⟨w', we, ws⟩ := re_M hM hI hv hi hj
  have he := (z_r hM hi hv).1
  have eN : zN t' = zN t := re_n hI
  obtain ⟨k1, -, k2⟩ := g so hso
  have em : ∀ q, mrL S' so q = mrL S so q := fun q => by
    unfold mrL
    rw [(k2 192 ⟨by decide, by decide, by decide, by decide⟩).2.2.2.2.1]
  have en : nbS S' so = nbS S so := by
    unfold nbS
    rw [(k2 192 ⟨by decide, by decide, by decide, by decide⟩).2.2.2.2.1]
  have er : ∀ v2 i2, i2 < zN t → rwL S' so v2 i2 = rwL S so v2 i2 := fun v2 i2 hi2 => by
    obtain ⟨-, -, -, b4⟩ := cc_bar hB hM hi2
    unfold rwL
    rw [em, ((g (mrL S so i2) (by rw [b4]; decide)).2.2 83 ⟨by decide, by decide, by decide, by decide⟩).2.2.2.1]
  have kr : ∀ v2 i2, i2 < zN t → v2 < 4 → kdC S (rwL S so v2 i2) ≠ 0 := fun v2 i2 hi2 hv2 => by
    rw [(cc_rw hB hM hi2 hv2).2.2]
    decide
  have hrw : ∀ v2 i2, i2 < zN t → v2 < 4 → (rwL S so v2 i2 = rwL S so v i ↔ 24 * v2 + i2 = 24 * v + i) := fun v2 i2 hi2 hv2 => e_rw hB hM hv2 hv (by omega) hi
  have hlen : (fL S 176 (rwL S so v i)).length = zE t v i := cc_e hB hM hi hv
  have hne : ∀ v2 i2, i2 < zN t → v2 < 4 → neS S' so v2 i2 = zE t' v2 i2 := fun v2 i2 hi2 hv2 => by
    show (fL S' 176 (rwL S' so v2 i2)).length = _
    rw [er v2 i2 hi2, hL _ (kr v2 i2 hi2 hv2), re_e hI]
    by_cases e9 : 24 * v2 + i2 = 24 * v + i
    · rw [if_pos ((hrw v2 i2 hi2 hv2).mpr e9), if_pos e9, List.length_eraseIdx_of_lt (by omega), hlen, aN_nI (by omega)]
    · rw [if_neg (fun z => e9 ((hrw v2 i2 hi2 hv2).mp z)), if_neg e9]
      exact cc_e hB hM hi2 hv2
  have hev : ∀ v2 i2 j2, i2 < zN t → v2 < 4 → evL S' so v2 i2 j2 = if 24 * v2 + i2 = 24 * v + i then (if j2 < j then evL S so v i j2 else evL S so v i (j2 + 1)) else evL S so v2 i2 j2 := fun v2 i2 j2 hi2 hv2 => by
    show ((fL S' 176 (rwL S' so v2 i2))[j2]?).getD 0 = _
    rw [er v2 i2 hi2, hL _ (kr v2 i2 hi2 hv2)]
    by_cases e9 : 24 * v2 + i2 = 24 * v + i
    · rw [if_pos ((hrw v2 i2 hi2 hv2).mpr e9), if_pos e9, gl_er]
      rfl
    · rw [if_neg (fun z => e9 ((hrw v2 i2 hi2 hv2).mp z)), if_neg e9]
      rfl
  have oldE : ∀ v2 i2 j2 p, i2 < zN t → v2 < 4 → j2 < zE t v2 i2 → (∀ f, 8 ≤ f → f ≤ 12 → t'.2 f p = t.2 f (zp v2 i2 j2)) → rE S' t' (evL S so v2 i2 j2) p := fun v2 i2 j2 p hi2 hv2 hj2 hp => by
    obtain ⟨q1, q2, q3, q4, q5, q6, q7, q8⟩ := (cc_ev hB hM hi2 hv2 hj2).2.2
    obtain ⟨u1, -, u2⟩ := g (evL S so v2 i2 j2) (by rw [q1]; decide)
    unfold rE
    rw [hp 8 (by decide) (by decide), hp 9 (by decide) (by decide), hp 10 (by decide) (by decide), hp 11 (by decide) (by decide), hp 12 (by decide) (by decide)]
    exact ⟨u1.trans q1, (u2 50 ⟨by decide, by decide, by decide, by decide⟩).1.trans q2, (u2 49 ⟨by decide, by decide, by decide, by decide⟩).1.trans q3, (u2 52 ⟨by decide, by decide, by decide, by decide⟩).1.trans q4, (u2 51 ⟨by decide, by decide, by decide, by decide⟩).1.trans q5, (u2 48 ⟨by decide, by decide, by decide, by decide⟩).1.trans q6, q7, q8⟩
  have inj : ∀ v2 i2 j2 v3 i3 j3, i2 < zN t → i3 < zN t → v2 < 4 → v3 < 4 → j2 < zE t v2 i2 → j3 < zE t v3 i3 → evL S so v2 i2 j2 = evL S so v3 i3 j3 → v2 = v3 ∧ i2 = i3 ∧ j2 = j3 := fun v2 i2 j2 v3 i3 j3 q1 q2 q3 q4 q5 q6 q7 => hB.2.2.2.2.2.2.2 v2 i2 j2 v3 i3 j3 (by omega) (by omega) q3 q4 (by rw [cc_e hB hM q1 q3]; exact q5) (by rw [cc_e hB hM q2 q4]; exact q6) q7
  have hB' : rB S' t' so := by
    obtain ⟨b1, b2, b3, b4, b5, b6, b7, b8⟩ := hB
    refine ⟨k1.trans b1, by rw [en]; exact b2, by rw [(k2 192 ⟨by decide, by decide, by decide, by decide⟩).2.2.2.2.2]; exact b3, by rw [en, hI.1 0 (by decide)]; exact b4, ?_, ?_, ?_, ?_⟩
    · intro i2 hi2
      rw [en] at hi2
      obtain ⟨m1, m2, m3, m4, m5, m6, m7⟩ := b5 i2 hi2
      have hi3 : i2 < zN t := by omega
      obtain ⟨u1, -, u2⟩ := g (mrL S so i2) (by rw [m1]; decide)
      unfold rM
      rw [em, hI.2.1 1 (by decide) (by decide) (by decide) (by decide) (by decide), hI.2.1 2 (by decide) (by decide) (by decide) (by decide) (by decide), hI.2.1 3 (by decide) (by decide) (by decide) (by decide) (by decide)]
      refine ⟨u1.trans m1, (u2 80 ⟨by decide, by decide, by decide, by decide⟩).1.trans m2, (u2 81 ⟨by decide, by decide, by decide, by decide⟩).1.trans m3, (u2 82 ⟨by decide, by decide, by decide, by decide⟩).1.trans m4, m5, m6, fun v2 hv2 => ?_⟩
      obtain ⟨r0, r1, r2, r3, r4, r5, r6, r7, r8⟩ := m7 v2 hv2
      obtain ⟨s1, -, s2⟩ := g (rwL S so v2 i2) (by rw [r1]; decide)
      have hz' := z_r w' (v := v2) (i := i2) (by omega) hv2
      have hNe := hne v2 i2 hi3 hv2
      unfold rR
      rw [em, hNe, er v2 i2 hi3, (u2 83 ⟨by decide, by decide, by decide, by decide⟩).2.2.2.1, hI.2.1 7 (by decide) (by decide) (by decide) (by decide) (by decide), hC _ (by rw [r1]; decide)]
      refine ⟨r0, s1.trans r1, hz'.1, hz'.2.1, (s2 178 ⟨by decide, by decide, by decide, by decide⟩).1.trans r4, r5, r6, ?_, fun j2 hj2 => ?_⟩
      · rw [h177 _ (by rw [r1]; decide), iS_z _ (fun k hk2 => (z_k w' (v := v2) (i := i2) (by omega) hv2 hk2).1)]
        by_cases e9 : 24 * v2 + i2 = 24 * v + i
        · have ev : v2 = v := by omega
          have ei : i2 = i := by omega
          rw [if_pos ((hrw v2 i2 hi3 hv2).mpr e9), cc_ticks hA.2.2.2.2.1 hM hi hv, ← ws, pk_sub (by omega), ev, ei, we, Nat.add_sub_cancel]
        · rw [if_neg (fun z => e9 ((hrw v2 i2 hi3 hv2).mp z)), cc_ticks hA.2.2.2.2.1 hM hi3 hv2, re_e hI, if_neg e9]
          congr 1
          exact (zS_same (fun k hk2 => by
            have := (z_r hM hi3 hv2).1
            show aN (tk (t'.2 9 (zp v2 i2 k)) (t'.2 10 (zp v2 i2 k))) = _
            rw [re_r hI he e9 hj (by omega) (by decide) (by decide), re_r hI he e9 hj (by omega) (by decide) (by decide)]
            rfl)).symm
      · rw [hev v2 i2 j2 hi3 hv2]
        by_cases e9 : 24 * v2 + i2 = 24 * v + i
        · have ev : v2 = v := by omega
          have ei : i2 = i := by omega
          rw [if_pos e9]
          rw [ev, ei] at hj2 ⊢
          rw [we] at hj2
          have es : ∀ f, 8 ≤ f → f ≤ 12 → t'.2 f (zp v i j2) = if j2 < j then t.2 f (zp v i j2) else t.2 f (zp v i (j2 + 1)) := fun f f1 f2 => re_s hI hj hj2 f1 f2
          by_cases e8 : j2 < j
          · rw [if_pos e8]
            exact oldE v i j2 _ hi hv (by omega) (fun f f1 f2 => by
              have := es f f1 f2
              rw [if_pos e8] at this
              exact this)
          · rw [if_neg e8]
            exact oldE v i (j2 + 1) _ hi hv (by omega) (fun f f1 f2 => by
              have := es f f1 f2
              rw [if_neg e8] at this
              exact this)
        · rw [if_neg e9]
          rw [re_e hI, if_neg e9] at hj2
          have := (z_r hM hi3 hv2).1
          exact oldE v2 i2 j2 _ hi3 hv2 hj2 (fun f f1 f2 => re_r hI he e9 hj (by omega) f1 f2)
    · intro i2 i3 hi2 hi3 z
      rw [en] at hi2 hi3
      rw [em, em] at z
      exact b6 i2 i3 hi2 hi3 z
    · intro v2 i2 v3 i3 hi2 hi3 hv2 hv3 z
      rw [en] at hi2 hi3
      rw [er v2 i2 (by omega), er v3 i3 (by omega)] at z
      exact b7 v2 i2 v3 i3 hi2 hi3 hv2 hv3 z
    · intro v2 i2 j2 v3 i3 j3 hi2 hi3 hv2 hv3 hj2 hj3 z
      rw [en] at hi2 hi3
      rw [hne v2 i2 (by omega) hv2, re_e hI, aN_nI (by omega)] at hj2
      rw [hne v3 i3 (by omega) hv3, re_e hI, aN_nI (by omega)] at hj3
      rw [hev v2 i2 j2 (by omega) hv2, hev v3 i3 j3 (by omega) hv3] at z
      by_cases e9 : 24 * v2 + i2 = 24 * v + i
      · have ev : v2 = v := by omega
        have ei : i2 = i := by omega
        rw [if_pos e9] at z hj2
        by_cases e8 : 24 * v3 + i3 = 24 * v + i
        · have ev3 : v3 = v := by omega
          have ei3 : i3 = i := by omega
          rw [if_pos e8] at z hj3
          refine ⟨by omega, by omega, ?_⟩
          by_cases a1 : j2 < j
          · rw [if_pos a1] at z
            by_cases a2 : j3 < j
            · rw [if_pos a2] at z
              exact (inj v i j2 v i j3 hi hi hv hv (by omega) (by omega) z).2.2
            · rw [if_neg a2] at z
              have := (inj v i j2 v i (j3 + 1) hi hi hv hv (by omega) (by omega) z).2.2
              omega
          · rw [if_neg a1] at z
            by_cases a2 : j3 < j
            · rw [if_pos a2] at z
              have := (inj v i (j2 + 1) v i j3 hi hi hv hv (by omega) (by omega) z).2.2
              omega
            · rw [if_neg a2] at z
              have := (inj v i (j2 + 1) v i (j3 + 1) hi hi hv hv (by omega) (by omega) z).2.2
              omega
        · rw [if_neg e8] at z hj3
          exfalso
          by_cases a1 : j2 < j
          · rw [if_pos a1] at z
            have := inj v i j2 v3 i3 j3 hi (by omega) hv hv3 (by omega) hj3 z
            omega
          · rw [if_neg a1] at z
            have := inj v i (j2 + 1) v3 i3 j3 hi (by omega) hv hv3 (by omega) hj3 z
            omega
      · rw [if_neg e9] at z hj2
        by_cases e8 : 24 * v3 + i3 = 24 * v + i
        · rw [if_pos e8] at z hj3
          exfalso
          by_cases a1 : j3 < j
          · rw [if_pos a1] at z
            have := inj v2 i2 j2 v i j3 (by omega) hi hv2 hv hj2 (by omega) z
            omega
          · rw [if_neg a1] at z
            have := inj v2 i2 j2 v i (j3 + 1) (by omega) hi hv2 hv hj2 (by omega) z
            omega
        · rw [if_neg e8] at z hj3
          exact inj v2 i2 j2 v3 i3 j3 (by omega) (by omega) hv2 hv3 hj2 hj3 z
  have ho : kdC S o ≠ 0 := by rw [hA.1]; decide
  have hpo : kdC S po ≠ 0 := by rw [hA.2.2.2.1]; decide
  obtain ⟨o1, -, o2⟩ := g o ho
  obtain ⟨p1, -, -⟩ := g po hpo
  have hP := rA_P hA
  refine ⟨o1.trans hA.1, ((o2 224 ⟨by decide, by decide, by decide, by decide⟩).2.2.1).trans hA.2.1, ((o2 225 ⟨by decide, by decide, by decide, by decide⟩).2.2.1).trans hA.2.2.1, p1.trans hA.2.2.2.1, hB', w', ?_, ?_, ?_, ?_⟩
  · obtain ⟨c1, c2, c3, c4, c5, c6⟩ := hP
    have eph : ∀ k, phL S' so k = phL S so k := fun k => by
      unfold phL
      rw [(k2 193 ⟨by decide, by decide, by decide, by decide⟩).2.2.2.2.1]
    have enp : npS S' so = npS S so := by
      unfold npS
      rw [(k2 193 ⟨by decide, by decide, by decide, by decide⟩).2.2.2.2.1]
    refine ⟨by rw [enp]; exact c1, by rw [enp, hI.1 14 (by decide)]; exact c2, by rw [(k2 193 ⟨by decide, by decide, by decide, by decide⟩).2.2.2.2.2]; exact c3, fun k hk2 => ?_, fun k k3 hk2 hk3 z => ?_, fun k hk2 hk3 => ?_⟩
    · rw [enp] at hk2
      obtain ⟨d1, d2, d3, d4, d5, d6, d7, d8, d9⟩ := c4 k hk2
      obtain ⟨u1, -, u2⟩ := g (phL S so k) (by rw [d1]; decide)
      have uu : ∀ f, f / 16 = 8 → f ≠ 133 → fI S' f (phL S so k) = fI S f (phL S so k) ∧ fR S' f (phL S so k) = fR S f (phL S so k) := fun f hf hf2 => ⟨(u2 f (by unfold fRm; omega)).1, (u2 f (by unfold fRm; omega)).2.2.1⟩
      have h20 := (hI.2.2.2.2.2.2 k).1 (by omega)
      have hg20 : gb (t'.2 20 k) := by
        by_cases e : rmG t k (nI v) (nI i) (nI j)
        · exact Or.inr (h20.1 e)
        · exact Or.inl (h20.2 e)
      unfold rPk rPe
      rw [eph, (uu 131 (by decide) (by decide)).2, (uu 132 (by decide) (by decide)).2, hI.2.1 15 (by decide) (by decide) (by decide) (by decide) (by decide), hI.2.1 16 (by decide) (by decide) (by decide) (by decide) (by decide), hI.2.1 18 (by decide) (by decide) (by decide) (by decide) (by decide), hI.2.2.2.2.1, hI.2.2.2.2.2.1, if_pos (by omega), if_pos (by omega), eN]
      refine ⟨u1.trans d1, (uu 128 (by decide) (by decide)).1.trans d2, (uu 129 (by decide) (by decide)).1.trans d3, (uu 130 (by decide) (by decide)).1.trans d4, h133 k (by omega), hg20, d7, d8, fun z => ?_⟩
      have hng : ¬ rmG t k (nI v) (nI i) (nI j) := fun e => by
        rw [h20.1 e] at z
        exact one_ne z
      have z0 : t.2 20 k = 0 := Classical.byContradiction fun z9 => hng (Or.inl z9)
      obtain ⟨v2, i2, j2, i3, j3, f1, f2, f3, f4, f5, f6, f7, f8, f9, f10, f11, f12⟩ := d9 z0
      have nE : ¬ (v2 = v ∧ i2 = i ∧ j2 = j) ∧ ¬ (v2 = v ∧ i3 = i ∧ j3 = j) := by
        refine ⟨fun z9 => hng (Or.inr ⟨by rw [f6, z9.1], Or.inl ⟨by rw [f7, z9.2.1], by rw [f8, z9.2.2]⟩⟩), fun z9 => hng (Or.inr ⟨by rw [f6, z9.1], Or.inr ⟨by rw [f9, z9.2.1], by rw [f10, z9.2.2]⟩⟩)⟩
      have mv : ∀ i2 j2, i2 < zN t → j2 < zE t v2 i2 → ¬ (v2 = v ∧ i2 = i ∧ j2 = j) → ∃ j2', j2' < zE t' v2 i2 ∧ nI j2 + mvD (nI v2) (nI i2) (nI j2) (nI v) (nI i) (nI (j + 1)) (-1) = nI j2' ∧ evL S' so v2 i2 j2' = evL S so v2 i2 j2 := fun i2 j2 f2 f3 fn => by
        have E2 := (z_r hM f2 f1).1
        unfold mvD
        by_cases a1 : v2 = v ∧ i2 = i ∧ j < j2
        · obtain ⟨a1, a2, a3⟩ := a1
          rw [if_neg]
          · obtain ⟨c, hc⟩ : ∃ c, j2 = c + 1 := ⟨j2 - 1, by omega⟩
            refine ⟨c, ?_, by rw [hc]; exact pk_m1 c, ?_⟩
            · rw [re_e hI, if_pos (by rw [a1, a2]), aN_nI (by omega)]
              rw [a1, a2] at f3
              omega
            · rw [hev v2 i2 _ f2 f1, if_pos (by rw [a1, a2]), if_neg (by omega), a1, a2, hc]
          · rintro (z | z | z)
            · exact z (by rw [a1])
            · exact z (by rw [a2])
            · exact absurd ((nI_ltI (by omega) (by omega)).mp z) (by omega)
        · rw [if_pos]
          · refine ⟨j2, ?_, Int32.add_zero _, ?_⟩
            · rw [re_e hI]
              by_cases a9 : 24 * v2 + i2 = 24 * v + i
              · rw [if_pos a9, aN_nI (by omega)]
                have ev : v2 = v := by omega
                have ei : i2 = i := by omega
                omega
              · rw [if_neg a9]
                exact f3
            · rw [hev v2 i2 _ f2 f1]
              by_cases a9 : 24 * v2 + i2 = 24 * v + i
              · have ev : v2 = v := by omega
                have ei : i2 = i := by omega
                rw [if_pos a9, if_pos (by omega), ev, ei]
              · rw [if_neg a9]
          · by_cases b1 : v2 = v
            · by_cases b2 : i2 = i
              · refine Or.inr (Or.inr (nI_lt ?_ (by omega)))
                omega
              · exact Or.inr (Or.inl (fun z => b2 ((nI_eq (by omega) (by omega)).mp z)))
            · exact Or.inl (fun z => b1 ((nI_eq (by omega) (by omega)).mp z))
      obtain ⟨j2', y1, y2, y3⟩ := mv i2 j2 f2 f3 nE.1
      obtain ⟨j3', y4, y5, y6⟩ := mv i3 j3 f4 f5 nE.2
      rw [f6, f7, f8, f9, f10]
      exact ⟨v2, i2, j2', i3, j3', f1, f2, y1, f4, y4, rfl, rfl, y2, rfl, y5, by rw [y3]; exact f11, by rw [y6]; exact f12⟩
    · rw [enp] at hk2 hk3
      rw [eph, eph] at z
      exact c5 k k3 hk2 hk3 z
    · rw [enp] at hk2
      rw [(hI.2.2.2.2.2.2 k).2 (by omega)]
      exact c6 k hk2 hk3
  · exact rT_c hso (rA_T hA) (Eqf_sub (fun f z => by unfold fT0 at z; unfold fRm; omega) g) (hI.1 0 (by decide)) (hI.2.1 4 (by decide) (by decide) (by decide) (by decide) (by decide)) (hI.2.1 5 (by decide) (by decide) (by decide) (by decide) (by decide))
  · exact rS_c hso (rA_S hA) (Eqf_sub (fun f z => by unfold fS0 at z; unfold fRm; omega) g) (hI.2.1 13 (by decide) (by decide) (by decide) (by decide) (by decide)) (hI.1 21 (by decide)) (hI.1 22 (by decide)) (hI.1 23 (by decide))
  · obtain ⟨q0, q1⟩ := rA_Z hA
    refine ⟨by rw [hI.2.1 26 (by decide) (by decide) (by decide) (by decide) (by decide)]; exact q0, fun v2 i2 hv2 hi2 hi3 => ?_⟩
    rw [eN] at hi2
    rw [hI.2.2.1, if_neg (by omega), hI.2.1 7 (by decide) (by decide) (by decide) (by decide) (by decide)]
    exact q1 v2 i2 hv2 hi2 hi3
end ID
section IF
variable {lb : Nat × Nat} {o so po : Nat} {I : Nat → CS → MS → Prop}
end IF
