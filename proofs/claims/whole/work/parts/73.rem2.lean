/-! remove, in the class -/
def fRm (f : Nat) : Prop := f ≠ 176 ∧ f ≠ 177 ∧ f ≠ 199 ∧ f ≠ 133
section ID
variable {S S' : CS} {t t' : MS} {o so po v i j np : Nat}
theorem rA_rem (hA : rA S t o so po) (hv : v < 4) (hi : i < zN t) (hj : j < zE t v i) (hnp : npS S so = np)
    (g : Eqf fRm S S') (hL : ∀ q, kdC S q ≠ 0 → fL S' 176 q = if q = rwL S so v i then (fL S 176 (rwL S so v i)).eraseIdx j else fL S 176 q) (hC : ∀ q, kdC S q ≠ 0 → fC S' 176 q = fC S 176 q) (h177 : ∀ q, kdC S q ≠ 0 → fI S' 177 q = if q = rwL S so v i then fI S 177 (rwL S so v i) - nI (zK t v i j) else fI S 177 q)
    (h133 : ∀ k, k < np → fI S' 133 (phL S so k) = t'.2 20 k) (hI : Rem t t' v i j np) : rA S' t' o so po := by
  have hB := rA_B hA
  have hM := rA_M hA
  have hn := cc_n hB hM
  have hn24 := hM.2.1
  have hso : kdC S so ≠ 0 := by rw [hB.1]; decide
  obtain ⟨w', we, ws⟩ := re_M hM hI hv hi hj
  have he := (z_r hM hi hv).1
  have eN : zN t' = zN t := re_n hI
  obtain ⟨k1, -, k2⟩ := g so hso
  have em : ∀ q, mrL S' so q = mrL S so q := fun q => by
    unfold mrL
    rw [(k2 192 ⟨by decide, by decide, by decide, by decide⟩).2.2.2.2.1]
  have en : nbS S' so = nbS S so := by
    unfold nbS
    rw [(k2 192 ⟨by decide, by decide, by decide, by decide⟩).2.2.2.2.1]
  have er : ∀ v2 i2, i2 < zN t → rwL S' so v2 i2 = rwL S so v2 i2 := fun v2 i2 hi2 => by
    obtain ⟨-, -, -, b4⟩ := cc_bar hB hM hi2
    unfold rwL
    rw [em, ((g (mrL S so i2) (by rw [b4]; decide)).2.2 83 ⟨by decide, by decide, by decide, by decide⟩).2.2.2.1]
  have kr : ∀ v2 i2, i2 < zN t → v2 < 4 → kdC S (rwL S so v2 i2) ≠ 0 := fun v2 i2 hi2 hv2 => by
    rw [(cc_rw hB hM hi2 hv2).2.2]
    decide
  have hrw : ∀ v2 i2, i2 < zN t → v2 < 4 → (rwL S so v2 i2 = rwL S so v i ↔ 24 * v2 + i2 = 24 * v + i) := fun v2 i2 hi2 hv2 => e_rw hB hM hv2 hv (by omega) hi
  have hlen : (fL S 176 (rwL S so v i)).length = zE t v i := cc_e hB hM hi hv
  have hne : ∀ v2 i2, i2 < zN t → v2 < 4 → neS S' so v2 i2 = zE t' v2 i2 := fun v2 i2 hi2 hv2 => by
    show (fL S' 176 (rwL S' so v2 i2)).length = _
    rw [er v2 i2 hi2, hL _ (kr v2 i2 hi2 hv2), re_e hI]
    by_cases e9 : 24 * v2 + i2 = 24 * v + i
    · rw [if_pos ((hrw v2 i2 hi2 hv2).mpr e9), if_pos e9, List.length_eraseIdx_of_lt (by omega), hlen, aN_nI (by omega)]
    · rw [if_neg (fun z => e9 ((hrw v2 i2 hi2 hv2).mp z)), if_neg e9]
      exact cc_e hB hM hi2 hv2
  have hev : ∀ v2 i2 j2, i2 < zN t → v2 < 4 → evL S' so v2 i2 j2 = if 24 * v2 + i2 = 24 * v + i then (if j2 < j then evL S so v i j2 else evL S so v i (j2 + 1)) else evL S so v2 i2 j2 := fun v2 i2 j2 hi2 hv2 => by
    show ((fL S' 176 (rwL S' so v2 i2))[j2]?).getD 0 = _
    rw [er v2 i2 hi2, hL _ (kr v2 i2 hi2 hv2)]
    by_cases e9 : 24 * v2 + i2 = 24 * v + i
    · rw [if_pos ((hrw v2 i2 hi2 hv2).mpr e9), if_pos e9, gl_er]
      rfl
    · rw [if_neg (fun z => e9 ((hrw v2 i2 hi2 hv2).mp z)), if_neg e9]
      rfl
  have oldE : ∀ v2 i2 j2 p, i2 < zN t → v2 < 4 → j2 < zE t v2 i2 → (∀ f, 8 ≤ f → f ≤ 12 → t'.2 f p = t.2 f (zp v2 i2 j2)) → rE S' t' (evL S so v2 i2 j2) p := fun v2 i2 j2 p hi2 hv2 hj2 hp => by
    obtain ⟨q1, q2, q3, q4, q5, q6, q7, q8⟩ := (cc_ev hB hM hi2 hv2 hj2).2.2
    obtain ⟨u1, -, u2⟩ := g (evL S so v2 i2 j2) (by rw [q1]; decide)
    unfold rE
    rw [hp 8 (by decide) (by decide), hp 9 (by decide) (by decide), hp 10 (by decide) (by decide), hp 11 (by decide) (by decide), hp 12 (by decide) (by decide)]
    exact ⟨u1.trans q1, (u2 50 ⟨by decide, by decide, by decide, by decide⟩).1.trans q2, (u2 49 ⟨by decide, by decide, by decide, by decide⟩).1.trans q3, (u2 52 ⟨by decide, by decide, by decide, by decide⟩).1.trans q4, (u2 51 ⟨by decide, by decide, by decide, by decide⟩).1.trans q5, (u2 48 ⟨by decide, by decide, by decide, by decide⟩).1.trans q6, q7, q8⟩
  have inj : ∀ v2 i2 j2 v3 i3 j3, i2 < zN t → i3 < zN t → v2 < 4 → v3 < 4 → j2 < zE t v2 i2 → j3 < zE t v3 i3 → evL S so v2 i2 j2 = evL S so v3 i3 j3 → v2 = v3 ∧ i2 = i3 ∧ j2 = j3 := fun v2 i2 j2 v3 i3 j3 q1 q2 q3 q4 q5 q6 q7 => hB.2.2.2.2.2.2.2 v2 i2 j2 v3 i3 j3 (by omega) (by omega) q3 q4 (by rw [cc_e hB hM q1 q3]; exact q5) (by rw [cc_e hB hM q2 q4]; exact q6) q7
  have hB' : rB S' t' so := by
    obtain ⟨b1, b2, b3, b4, b5, b6, b7, b8⟩ := hB
    refine ⟨k1.trans b1, by rw [en]; exact b2, by rw [(k2 192 ⟨by decide, by decide, by decide, by decide⟩).2.2.2.2.2]; exact b3, by rw [en, hI.1 0 (by decide)]; exact b4, ?_, ?_, ?_, ?_⟩
    · intro i2 hi2
      rw [en] at hi2
      obtain ⟨m1, m2, m3, m4, m5, m6, m7⟩ := b5 i2 hi2
      have hi3 : i2 < zN t := by omega
      obtain ⟨u1, -, u2⟩ := g (mrL S so i2) (by rw [m1]; decide)
      unfold rM
      rw [em, hI.2.1 1 (by decide) (by decide) (by decide) (by decide) (by decide), hI.2.1 2 (by decide) (by decide) (by decide) (by decide) (by decide), hI.2.1 3 (by decide) (by decide) (by decide) (by decide) (by decide)]
      refine ⟨u1.trans m1, (u2 80 ⟨by decide, by decide, by decide, by decide⟩).1.trans m2, (u2 81 ⟨by decide, by decide, by decide, by decide⟩).1.trans m3, (u2 82 ⟨by decide, by decide, by decide, by decide⟩).1.trans m4, m5, m6, fun v2 hv2 => ?_⟩
      obtain ⟨r0, r1, r2, r3, r4, r5, r6, r7, r8⟩ := m7 v2 hv2
      obtain ⟨s1, -, s2⟩ := g (rwL S so v2 i2) (by rw [r1]; decide)
      have hz' := z_r w' (v := v2) (i := i2) (by omega) hv2
      have hNe := hne v2 i2 hi3 hv2
      unfold rR
      rw [em, hNe, er v2 i2 hi3, (u2 83 ⟨by decide, by decide, by decide, by decide⟩).2.2.2.1, hI.2.1 7 (by decide) (by decide) (by decide) (by decide) (by decide), hC _ (by rw [r1]; decide)]
      refine ⟨r0, s1.trans r1, hz'.1, hz'.2.1, (s2 178 ⟨by decide, by decide, by decide, by decide⟩).1.trans r4, r5, r6, ?_, fun j2 hj2 => ?_⟩
      · rw [h177 _ (by rw [r1]; decide), iS_z _ (fun k hk2 => (z_k w' (v := v2) (i := i2) (by omega) hv2 hk2).1)]
        by_cases e9 : 24 * v2 + i2 = 24 * v + i
        · have ev : v2 = v := by omega
          have ei : i2 = i := by omega
          rw [if_pos ((hrw v2 i2 hi3 hv2).mpr e9), cc_ticks hA.2.2.2.2.1 hM hi hv, ← ws, pk_sub (by omega), ev, ei, we, Nat.add_sub_cancel]
        · rw [if_neg (fun z => e9 ((hrw v2 i2 hi3 hv2).mp z)), cc_ticks hA.2.2.2.2.1 hM hi3 hv2, re_e hI, if_neg e9]
          congr 1
          exact (zS_same (fun k hk2 => by
            have := (z_r hM hi3 hv2).1
            show aN (tk (t'.2 9 (zp v2 i2 k)) (t'.2 10 (zp v2 i2 k))) = _
            rw [re_r hI he e9 hj (by omega) (by decide) (by decide), re_r hI he e9 hj (by omega) (by decide) (by decide)]
            rfl)).symm
      · rw [hev v2 i2 j2 hi3 hv2]
        by_cases e9 : 24 * v2 + i2 = 24 * v + i
        · have ev : v2 = v := by omega
          have ei : i2 = i := by omega
          rw [if_pos e9]
          rw [ev, ei] at hj2 ⊢
          rw [we] at hj2
          have es : ∀ f, 8 ≤ f → f ≤ 12 → t'.2 f (zp v i j2) = if j2 < j then t.2 f (zp v i j2) else t.2 f (zp v i (j2 + 1)) := fun f f1 f2 => re_s hI hj hj2 f1 f2
          by_cases e8 : j2 < j
          · rw [if_pos e8]
            exact oldE v i j2 _ hi hv (by omega) (fun f f1 f2 => by
              have := es f f1 f2
              rw [if_pos e8] at this
              exact this)
          · rw [if_neg e8]
            exact oldE v i (j2 + 1) _ hi hv (by omega) (fun f f1 f2 => by
              have := es f f1 f2
              rw [if_neg e8] at this
              exact this)
        · rw [if_neg e9]
          rw [re_e hI, if_neg e9] at hj2
          have := (z_r hM hi3 hv2).1
          exact oldE v2 i2 j2 _ hi3 hv2 hj2 (fun f f1 f2 => re_r hI he e9 hj (by omega) f1 f2)
    · intro i2 i3 hi2 hi3 z
      rw [en] at hi2 hi3
      rw [em, em] at z
      exact b6 i2 i3 hi2 hi3 z
    · intro v2 i2 v3 i3 hi2 hi3 hv2 hv3 z
      rw [en] at hi2 hi3
      rw [er v2 i2 (by omega), er v3 i3 (by omega)] at z
      exact b7 v2 i2 v3 i3 hi2 hi3 hv2 hv3 z
    · intro v2 i2 j2 v3 i3 j3 hi2 hi3 hv2 hv3 hj2 hj3 z
      rw [en] at hi2 hi3
      rw [hne v2 i2 (by omega) hv2, re_e hI, aN_nI (by omega)] at hj2
      rw [hne v3 i3 (by omega) hv3, re_e hI, aN_nI (by omega)] at hj3
      rw [hev v2 i2 j2 (by omega) hv2, hev v3 i3 j3 (by omega) hv3] at z
      by_cases e9 : 24 * v2 + i2 = 24 * v + i
      · have ev : v2 = v := by omega
        have ei : i2 = i := by omega
        rw [if_pos e9] at z hj2
        by_cases e8 : 24 * v3 + i3 = 24 * v + i
        · have ev3 : v3 = v := by omega
          have ei3 : i3 = i := by omega
          rw [if_pos e8] at z hj3
          refine ⟨by omega, by omega, ?_⟩
          by_cases a1 : j2 < j
          · rw [if_pos a1] at z
            by_cases a2 : j3 < j
            · rw [if_pos a2] at z
              exact (inj v i j2 v i j3 hi hi hv hv (by omega) (by omega) z).2.2
            · rw [if_neg a2] at z
              have := (inj v i j2 v i (j3 + 1) hi hi hv hv (by omega) (by omega) z).2.2
              omega
          · rw [if_neg a1] at z
            by_cases a2 : j3 < j
            · rw [if_pos a2] at z
              have := (inj v i (j2 + 1) v i j3 hi hi hv hv (by omega) (by omega) z).2.2
              omega
            · rw [if_neg a2] at z
              have := (inj v i (j2 + 1) v i (j3 + 1) hi hi hv hv (by omega) (by omega) z).2.2
              omega
        · rw [if_neg e8] at z hj3
          exfalso
          by_cases a1 : j2 < j
          · rw [if_pos a1] at z
            have := inj v i j2 v3 i3 j3 hi (by omega) hv hv3 (by omega) hj3 z
            omega
          · rw [if_neg a1] at z
            have := inj v i (j2 + 1) v3 i3 j3 hi (by omega) hv hv3 (by omega) hj3 z
            omega
      · rw [if_neg e9] at z hj2
        by_cases e8 : 24 * v3 + i3 = 24 * v + i
        · rw [if_pos e8] at z hj3
          exfalso
          by_cases a1 : j3 < j
          · rw [if_pos a1] at z
            have := inj v2 i2 j2 v i j3 (by omega) hi hv2 hv hj2 (by omega) z
            omega
          · rw [if_neg a1] at z
            have := inj v2 i2 j2 v i (j3 + 1) (by omega) hi hv2 hv hj2 (by omega) z
            omega
        · rw [if_neg e8] at z hj3
          exact inj v2 i2 j2 v3 i3 j3 (by omega) (by omega) hv2 hv3 hj2 hj3 z
  have ho : kdC S o ≠ 0 := by rw [hA.1]; decide
  have hpo : kdC S po ≠ 0 := by rw [hA.2.2.2.1]; decide
  obtain ⟨o1, -, o2⟩ := g o ho
  obtain ⟨p1, -, -⟩ := g po hpo
  have hP := rA_P hA
  refine ⟨o1.trans hA.1, ((o2 224 ⟨by decide, by decide, by decide, by decide⟩).2.2.1).trans hA.2.1, ((o2 225 ⟨by decide, by decide, by decide, by decide⟩).2.2.1).trans hA.2.2.1, p1.trans hA.2.2.2.1, hB', w', ?_, ?_, ?_, ?_⟩
  · obtain ⟨c1, c2, c3, c4, c5, c6⟩ := hP
    have eph : ∀ k, phL S' so k = phL S so k := fun k => by
      unfold phL
      rw [(k2 193 ⟨by decide, by decide, by decide, by decide⟩).2.2.2.2.1]
    have enp : npS S' so = npS S so := by
      unfold npS
      rw [(k2 193 ⟨by decide, by decide, by decide, by decide⟩).2.2.2.2.1]
    refine ⟨by rw [enp]; exact c1, by rw [enp, hI.1 14 (by decide)]; exact c2, by rw [(k2 193 ⟨by decide, by decide, by decide, by decide⟩).2.2.2.2.2]; exact c3, fun k hk2 => ?_, fun k k3 hk2 hk3 z => ?_, fun k hk2 hk3 => ?_⟩
    · rw [enp] at hk2
      obtain ⟨d1, d2, d3, d4, d5, d6, d7, d8, d9⟩ := c4 k hk2
      obtain ⟨u1, -, u2⟩ := g (phL S so k) (by rw [d1]; decide)
      have uu : ∀ f, f / 16 = 8 → f ≠ 133 → fI S' f (phL S so k) = fI S f (phL S so k) ∧ fR S' f (phL S so k) = fR S f (phL S so k) := fun f hf hf2 => ⟨(u2 f (by unfold fRm; omega)).1, (u2 f (by unfold fRm; omega)).2.2.1⟩
      have h20 := (hI.2.2.2.2.2.2 k).1 (by omega)
      have hg20 : gb (t'.2 20 k) := by
        by_cases e : rmG t k (nI v) (nI i) (nI j)
        · exact Or.inr (h20.1 e)
        · exact Or.inl (h20.2 e)
      unfold rPk rPe
      rw [eph, (uu 131 (by decide) (by decide)).2, (uu 132 (by decide) (by decide)).2, hI.2.1 15 (by decide) (by decide) (by decide) (by decide) (by decide), hI.2.1 16 (by decide) (by decide) (by decide) (by decide) (by decide), hI.2.1 18 (by decide) (by decide) (by decide) (by decide) (by decide), hI.2.2.2.2.1, hI.2.2.2.2.2.1, if_pos (by omega), if_pos (by omega), eN]
      refine ⟨u1.trans d1, (uu 128 (by decide) (by decide)).1.trans d2, (uu 129 (by decide) (by decide)).1.trans d3, (uu 130 (by decide) (by decide)).1.trans d4, h133 k (by omega), hg20, d7, d8, fun z => ?_⟩
      have hng : ¬ rmG t k (nI v) (nI i) (nI j) := fun e => by
        rw [h20.1 e] at z
        exact one_ne z
      have z0 : t.2 20 k = 0 := Classical.byContradiction fun z9 => hng (Or.inl z9)
      obtain ⟨v2, i2, j2, i3, j3, f1, f2, f3, f4, f5, f6, f7, f8, f9, f10, f11, f12⟩ := d9 z0
      have nE : ¬ (v2 = v ∧ i2 = i ∧ j2 = j) ∧ ¬ (v2 = v ∧ i3 = i ∧ j3 = j) := by
        refine ⟨fun z9 => hng (Or.inr ⟨by rw [f6, z9.1], Or.inl ⟨by rw [f7, z9.2.1], by rw [f8, z9.2.2]⟩⟩), fun z9 => hng (Or.inr ⟨by rw [f6, z9.1], Or.inr ⟨by rw [f9, z9.2.1], by rw [f10, z9.2.2]⟩⟩)⟩
      have mv : ∀ i2 j2, i2 < zN t → j2 < zE t v2 i2 → ¬ (v2 = v ∧ i2 = i ∧ j2 = j) → ∃ j2', j2' < zE t' v2 i2 ∧ nI j2 + mvD (nI v2) (nI i2) (nI j2) (nI v) (nI i) (nI (j + 1)) (-1) = nI j2' ∧ evL S' so v2 i2 j2' = evL S so v2 i2 j2 := fun i2 j2 f2 f3 fn => by
        have E2 := (z_r hM f2 f1).1
        unfold mvD
        by_cases a1 : v2 = v ∧ i2 = i ∧ j < j2
        · obtain ⟨a1, a2, a3⟩ := a1
          rw [if_neg]
          · obtain ⟨c, hc⟩ : ∃ c, j2 = c + 1 := ⟨j2 - 1, by omega⟩
            refine ⟨c, ?_, by rw [hc]; exact pk_m1 c, ?_⟩
            · rw [re_e hI, if_pos (by rw [a1, a2]), aN_nI (by omega)]
              rw [a1, a2] at f3
              omega
            · rw [hev v2 i2 _ f2 f1, if_pos (by rw [a1, a2]), if_neg (by omega), a1, a2, hc]
          · rintro (z | z | z)
            · exact z (by rw [a1])
            · exact z (by rw [a2])
            · exact absurd ((nI_ltI (by omega) (by omega)).mp z) (by omega)
        · rw [if_pos]
          · refine ⟨j2, ?_, Int32.add_zero _, ?_⟩
            · rw [re_e hI]
              by_cases a9 : 24 * v2 + i2 = 24 * v + i
              · rw [if_pos a9, aN_nI (by omega)]
                have ev : v2 = v := by omega
                have ei : i2 = i := by omega
                omega
              · rw [if_neg a9]
                exact f3
            · rw [hev v2 i2 _ f2 f1]
              by_cases a9 : 24 * v2 + i2 = 24 * v + i
              · have ev : v2 = v := by omega
                have ei : i2 = i := by omega
                rw [if_pos a9, if_pos (by omega), ev, ei]
              · rw [if_neg a9]
          · by_cases b1 : v2 = v
            · by_cases b2 : i2 = i
              · refine Or.inr (Or.inr (nI_lt ?_ (by omega)))
                omega
              · exact Or.inr (Or.inl (fun z => b2 ((nI_eq (by omega) (by omega)).mp z)))
            · exact Or.inl (fun z => b1 ((nI_eq (by omega) (by omega)).mp z))
      obtain ⟨j2', y1, y2, y3⟩ := mv i2 j2 f2 f3 nE.1
      obtain ⟨j3', y4, y5, y6⟩ := mv i3 j3 f4 f5 nE.2
      rw [f6, f7, f8, f9, f10]
      exact ⟨v2, i2, j2', i3, j3', f1, f2, y1, f4, y4, rfl, rfl, y2, rfl, y5, by rw [y3]; exact f11, by rw [y6]; exact f12⟩
    · rw [enp] at hk2 hk3
      rw [eph, eph] at z
      exact c5 k k3 hk2 hk3 z
    · rw [enp] at hk2
      rw [(hI.2.2.2.2.2.2 k).2 (by omega)]
      exact c6 k hk2 hk3
  · exact rT_c hso (rA_T hA) (Eqf_sub (fun f z => by unfold fT0 at z; unfold fRm; omega) g) (hI.1 0 (by decide)) (hI.2.1 4 (by decide) (by decide) (by decide) (by decide) (by decide)) (hI.2.1 5 (by decide) (by decide) (by decide) (by decide) (by decide))
  · exact rS_c hso (rA_S hA) (Eqf_sub (fun f z => by unfold fS0 at z; unfold fRm; omega) g) (hI.2.1 13 (by decide) (by decide) (by decide) (by decide) (by decide)) (hI.1 21 (by decide)) (hI.1 22 (by decide)) (hI.1 23 (by decide))
  · obtain ⟨q0, q1⟩ := rA_Z hA
    refine ⟨by rw [hI.2.1 26 (by decide) (by decide) (by decide) (by decide) (by decide)]; exact q0, fun v2 i2 hv2 hi2 hi3 => ?_⟩
    rw [eN] at hi2
    rw [hI.2.2.1, if_neg (by omega), hI.2.1 7 (by decide) (by decide) (by decide) (by decide) (by decide)]
    exact q1 v2 i2 hv2 hi2 hi3
end ID
section IF
variable {lb : Nat × Nat} {o so po : Nat} {I : Nat → CS → MS → Prop}
theorem si_remove (hI : Im lb o so po I) : Si_remove lb o I := by
  intro n S t ov a1 a2 a3 h
  obtain ⟨hA, hr, hn, hm⟩ := hI n S t h
  have hB := rA_B hA
  have hM := rA_M hA
  have hP := rA_P hA
  have h20 := hP.1
  have hn24 := hM.2.1
  have hso : kdC S so ≠ 0 := by rw [hB.1]; decide
  refine ⟨(szC S + 100, nsC S + 2000), rm_0 hr, hA.1, a_Ev hA rm_1 (fun v i j hv hi hj ev ei ej hz hd hz2 => ?_) (fun hz sz ns => ?_) (fun hz hd hz2 sz ns => ?_)⟩
  · subst ev
    subst ei
    subst ej
    obtain ⟨r1, r2, r3⟩ := cc_rw hB hM hi hv
    obtain ⟨q1, q2, q3⟩ := cc_ev hB hM hi hv hj
    have he16 := (z_r hM hi hv).1
    have hR := cc_row hB hM hi hv
    have ecj : (nI j).toNatClampNeg = j := nI_clamp (by omega)
    have e48 : fI S 48 (evL S so v i j) = nI (zK t v i j) := q3.2.2.2.2.2.1.trans (z_k hM hi hv hj).1
    have hmem : ∀ y, y ∈ fL S 176 (rwL S so v i) → kdC S y = cEK 176 := fun y hy => by
      obtain ⟨k, k1, k2⟩ := gl_mem hy
      have k1' : k < zE t v i := by rw [← cc_e hB hM hi hv]; exact k1
      have k3 := (cc_ev hB hM hi hv k1').2.2.1
      have k4 : evL S so v i k = y := k2
      rw [k4] at k3
      exact k3
    rw [oG_so hA.2.1, r2]
    unfold w_X8_takeOut
    rw [q2, e48, ecj]
    refine ⟨ne_so hA.2.1, hB.1, r1, r3, r3, q1, q3.1, fun t4 ht4 => ⟨?_, ?_, fun t7 ht7 => ?_⟩⟩
    · rw [ht4]
      exact ⟨hR.2.2.2.2.2.2.1, hmem⟩
    · rw [ht4]
      exact q1
    have hL7 : fL t7 = up2 (fL S) 176 (rwL S so v i) ((fL S 176 (rwL S so v i)).eraseIdx j) := by
      rw [ht7, ht4]
      rfl
    have hk7 : kdC t7 = kdC S := by rw [ht7, ht4]; rfl
    have hR7 : fR t7 = fR S := by rw [ht7, ht4]; rfl
    have hI7 : ∀ f, f ≠ 177 → fI t7 f = fI S f := fun f hf => by
      rw [ht7, s_usL_fI, ht4, fI_ne hf]
    have hs7 : fR t7 224 o = some so := by rw [hR7]; exact hA.2.1
    have hL193 : fL t7 193 so = fL S 193 so := by
      rw [hL7, up2_no (fun z => absurd z.1 (by decide))]
    have hz7 : szC t7 = szC S ∧ nsC t7 = nsC S := by rw [ht7, ht4]; exact ⟨rfl, rfl⟩
    dsimp only
    rw [oG_so hs7]
    refine ⟨ne_so hs7, by rw [hk7]; exact hB.1, ?_⟩
    refine lp_for (fun k z => z.1 = nI k ∧ (kdC z.2 = kdC t7 ∧ fA z.2 = fA t7 ∧ fJ z.2 = fJ t7 ∧ fR z.2 = fR t7 ∧ fQ z.2 = fQ t7 ∧ fL z.2 = fL t7 ∧ fC z.2 = fC t7 ∧ szC z.2 = szC t7 ∧ nsC z.2 = nsC t7 ∧ ∀ f, f ≠ 133 → fI z.2 f = fI t7 f) ∧ ∀ k2, k2 < npS S so → (k2 < k ∧ (fR S 131 (phL S so k2) = some (evL S so v i j) ∨ fR S 132 (phL S so k2) = some (evL S so v i j)) → fI z.2 133 (phL S so k2) = 1) ∧ (¬ (k2 < k ∧ (fR S 131 (phL S so k2) = some (evL S so v i j) ∨ fR S 132 (phL S so k2) = some (evL S so v i j))) → fI z.2 133 (phL S so k2) = fI S 133 (phL S so k2))) (npS S so) ?_ ?_ 0 (Nat.zero_le _) (0, t7) ⟨rfl, ⟨rfl, rfl, rfl, rfl, rfl, rfl, rfl, rfl, rfl, fun _ _ => rfl⟩, fun k2 _ => ⟨fun z => absurd z.1 (Nat.not_lt_zero _), fun _ => by rw [hI7 133 (by decide)]⟩⟩
    · intro k hk K z hz9 hK
      obtain ⟨z1, u⟩ := z
      obtain ⟨hz1, ⟨u1, u2, u3, u4, u5, u6, u7, u8, u9, u10⟩, u11⟩ := hz9
      dsimp only at hz1 u1 u2 u3 u4 u5 u6 u7 u8 u9 u10 u11
      subst hz1
      obtain ⟨p1, p2, p3⟩ := cc_ph hP hk
      obtain ⟨d1, d2, d3, d4, d5, d6, d7, d8, d9⟩ := p3
      have eL : fL u 193 so = fL S 193 so := by rw [u6]; exact hL193
      have eG : lG u 193 so (nI k) = phL S so k := by
        unfold lG
        rw [eL]
        exact p2
      have eI : lIn u 193 so (nI k) := by
        unfold lIn
        rw [eL]
        exact p1
      have ek : kdC u = kdC S := u1.trans hk7
      have eR : fR u = fR S := u4.trans hR7
      unfold w_X9_dropPhrasesAt_L2
      dsimp only
      rw [eL, eG]
      have s131 : some (oG (fR S 131 (phL S so k))) = fR S 131 (phL S so k) := by
        cases h9 : fR S 131 (phL S so k) with
        | none => exact absurd h9 d7
        | some x => rfl
      have s132 : some (oG (fR S 132 (phL S so k))) = fR S 132 (phL S so k) := by
        cases h9 : fR S 132 (phL S so k) with
        | none => exact absurd h9 d8
        | some x => rfl
      have ehe : v_X5_hasEnd (phL S so k) (evL S so v i j) u = 0 ↔ ¬ (fR S 131 (phL S so k) = some (evL S so v i j) ∨ fR S 132 (phL S so k) = some (evL S so v i j)) := by
        unfold v_X5_hasEnd
        rw [eR, s131, s132]
        by_cases c : fR S 131 (phL S so k) = some (evL S so v i j) ∨ fR S 132 (phL S so k) = some (evL S so v i j)
        · rw [if_pos c]
          exact ⟨fun z => absurd z one_ne, fun z => absurd c z⟩
        · rw [if_neg c]
          exact ⟨fun _ => c, fun _ => rfl⟩
      have ehd : d_X5_hasEnd (phL S so k) (evL S so v i j) u := ⟨by rw [ek]; exact d1, by rw [eR]; exact d7, fun _ => by rw [eR]; exact d8⟩
      rw [nI_1]
      refine ⟨by rw [ek]; exact hB.1, fun h9 => absurd h9 (nI_ge (b := npS S so) hk (by omega)), fun _ => ⟨eI, by rw [ek]; exact d1, ehd, fun u' => K (nI (k + 1), u'), fun _ h => h, fun hne => hK _ ?_, fun hne => ⟨eI, fun u' hu' => hK _ ?_⟩⟩⟩
      · have hne' := ehe.mp hne
        refine ⟨rfl, ⟨u1, u2, u3, u4, u5, u6, u7, u8, u9, u10⟩, fun k2 hk2 => ⟨fun z => ?_, fun z => ?_⟩⟩
        · refine (u11 k2 hk2).1 ⟨?_, z.2⟩
          by_cases e9 : k2 = k
          · rw [e9] at z
            exact absurd z.2 hne'
          · omega
        · exact (u11 k2 hk2).2 (fun z9 => z ⟨by omega, z9.2⟩)
      · have hne' : fR S 131 (phL S so k) = some (evL S so v i j) ∨ fR S 132 (phL S so k) = some (evL S so v i j) := Classical.byContradiction fun z => hne (ehe.mpr z)
        refine ⟨rfl, by rw [hu']; exact ⟨u1, u2, u3, u4, u5, u6, u7, u8, u9, fun f hf => (fI_ne hf).trans (u10 f hf)⟩, fun k2 hk2 => ?_⟩
        dsimp only
        rw [hu', fI_at]
        by_cases e9 : k2 = k
        · rw [if_pos (by rw [e9])]
          exact ⟨fun _ => rfl, fun z => absurd ⟨by omega, by rw [e9]; exact hne'⟩ z⟩
        · have nph : ¬ phL S so k2 = phL S so k := fun z => e9 (hP.2.2.2.2.1 k2 k hk2 hk z)
          rw [if_neg nph]
          exact ⟨fun z => (u11 k2 hk2).1 ⟨by omega, z.2⟩, fun z => (u11 k2 hk2).2 (fun z9 => z ⟨by omega, z9.2⟩)⟩
    · intro K z hz9
      obtain ⟨z1, u⟩ := z
      obtain ⟨hz1, ⟨u1, u2, u3, u4, u5, u6, u7, u8, u9, u10⟩, u11⟩ := hz9
      dsimp only at hz1 u1 u2 u3 u4 u5 u6 u7 u8 u9 u10 u11
      subst hz1
      have eL : fL u 193 so = fL S 193 so := by rw [u6]; exact hL193
      have ek : kdC u = kdC S := u1.trans hk7
      have eR : fR u = fR S := u4.trans hR7
      unfold w_X9_dropPhrasesAt_L2
      dsimp only
      rw [eL]
      refine ⟨by rw [ek]; exact hB.1, fun _ => ?_, fun h9 => absurd (nI_le (Nat.le_refl (npS S so)) (by omega)) h9⟩
      have hsu : fR u 224 o = some so := by rw [eR]; exact hA.2.1
      rw [oG_so hsu]
      refine ⟨ne_so hsu, by rw [ek]; exact hB.1, fun t13 ht13 => ?_⟩
      have e48' : fI t13 48 (evL S so v i j) = nI (zK t v i j) := by
        rw [ht13, fI_ne (by decide), u10 48 (by decide), hI7 48 (by decide)]
        exact e48
      rw [e48']
      refine ⟨by rw [ht13]; show kdC u _ = 3; rw [ek]; exact q3.1, ?_⟩
      intro hzz1 hzz2
      refine mm_remove hM h20 hP.2.1 (fun k hk => (hP.2.2.2.1 k hk).2.2.2.2.2.1) hv hi hj hz hd hz2 (fun t' hRem hthr => ⟨hthr, fun _ => rfl, hm _ _ ?_ ?_ ?_ ?_ ?_⟩)
      · have fC7 : fC t7 = up2 (fC S) 176 (rwL S so v i) (fC S 176 (rwL S so v i)) := by
          rw [ht7, ht4]
          rfl
        refine rA_rem hA hv hi hj rfl ?_ (fun q hq => ?_) (fun q hq => ?_) (fun q hq => ?_) (fun k hk => ?_) hRem
        · intro q hq
          refine ⟨by rw [ht13]; exact congrFun ek q, fun _ => by rw [ht13]; show fJ u q = _; rw [u3, ht7, ht4]; rfl, fun f hf => ⟨?_, ?_, ?_, ?_, ?_, ?_⟩⟩
          · rw [ht13, fI_ne hf.2.2.1, u10 f hf.2.2.2, hI7 f hf.2.1]
          · rw [ht13]
            show fA u f q = _
            rw [u2, ht7, ht4]
            rfl
          · rw [ht13]
            show fR u f q = _
            rw [eR]
          · rw [ht13]
            show fQ u f q = _
            rw [u5, ht7, ht4]
            rfl
          · rw [ht13]
            show fL u f q = _
            rw [u6, hL7, up2_no (fun z => hf.1 z.1)]
          · rw [ht13]
            show fC u f q = _
            rw [u7, fC7, up2_no (fun z => hf.1 z.1)]
        · rw [ht13]
          show fL u 176 q = _
          rw [u6, hL7]
          by_cases e9 : q = rwL S so v i
          · rw [e9, up2_is, if_pos rfl]
          · rw [up2_no (fun z => e9 z.2), if_neg e9]
        · rw [ht13]
          show fC u 176 q = _
          rw [u7, fC7]
          by_cases e9 : q = rwL S so v i
          · rw [e9, up2_is]
          · rw [up2_no (fun z => e9 z.2)]
        · rw [ht13, fI_ne (by decide), u10 177 (by decide), ht7, s_usL_fI, ht4, fI_at]
        · rw [ht13, fI_ne (by decide)]
          obtain ⟨d1, d2, d3, d4, d5, d6, d7, d8, d9⟩ := hP.2.2.2.1 k hk
          have h20' := (hRem.2.2.2.2.2.2 k).1 hk
          by_cases c : fR S 131 (phL S so k) = some (evL S so v i j) ∨ fR S 132 (phL S so k) = some (evL S so v i j)
          · rw [(u11 k hk).1 ⟨hk, c⟩]
            refine (h20'.1 ?_).symm
            by_cases z0 : t.2 20 k = 0
            · obtain ⟨v2, i2, j2, i3, j3, f1, f2, f3, f4, f5, f6, f7, f8, f9, f10, f11, f12⟩ := d9 z0
              have inj : ∀ v2 i2 j2, i2 < zN t → v2 < 4 → j2 < zE t v2 i2 → evL S so v2 i2 j2 = evL S so v i j → v2 = v ∧ i2 = i ∧ j2 = j := fun v2 i2 j2 g1 g2 g3 g4 => hB.2.2.2.2.2.2.2 v2 i2 j2 v i j (by rw [cc_n hB hM]; exact g1) (by rw [cc_n hB hM]; exact hi) g2 hv (by rw [cc_e hB hM g1 g2]; exact g3) (by rw [cc_e hB hM hi hv]; exact hj) g4
              refine Or.inr ?_
              rw [f11, f12] at c
              rcases c with c | c
              · obtain ⟨g1, g2, g3⟩ := inj v2 i2 j2 f2 f1 f3 (Option.some.inj c)
                exact ⟨by rw [f6, g1], Or.inl ⟨by rw [f7, g2], by rw [f8, g3]⟩⟩
              · obtain ⟨g1, g2, g3⟩ := inj v2 i3 j3 f4 f1 f5 (Option.some.inj c)
                exact ⟨by rw [f6, g1], Or.inr ⟨by rw [f9, g2], by rw [f10, g3]⟩⟩
            · exact Or.inl z0
          · rw [(u11 k hk).2 (fun z => c z.2), d5]
            by_cases z0 : t.2 20 k = 0
            · rw [z0]
              refine (h20'.2 (fun z => ?_)).symm
              rcases z with z | z
              · exact z z0
              · obtain ⟨v2, i2, j2, i3, j3, f1, f2, f3, f4, f5, f6, f7, f8, f9, f10, f11, f12⟩ := d9 z0
                refine c ?_
                have E2 := (z_r hM f2 f1).1
                have E3 := (z_r hM f4 f1).1
                rw [f6, f7, f8, f9, f10] at z
                obtain ⟨g1, g2⟩ := z
                have g1' : v2 = v := (nI_eq (by omega) (by omega)).mp g1
                rcases g2 with ⟨g2, g3⟩ | ⟨g2, g3⟩
                · refine Or.inl ?_
                  rw [f11, g1', (nI_eq (by omega) (by omega)).mp g2, (nI_eq (by omega) (by omega)).mp g3]
                · refine Or.inr ?_
                  rw [f12, g1', (nI_eq (by omega) (by omega)).mp g2, (nI_eq (by omega) (by omega)).mp g3]
            · rw [h20'.1 (Or.inl z0)]
              exact d6.resolve_left z0
      · rw [ht13, ed_at, u10 199 (by decide), hI7 199 (by decide)]
      · intro q hq
        refine ⟨by rw [ht13]; exact congrFun ek q, fun _ => by rw [ht13]; show fJ u q = _; rw [u3, ht7, ht4]; rfl, fun f hf => ?_⟩
        have hf' : f ≠ 176 ∧ f ≠ 177 ∧ f ≠ 199 ∧ f ≠ 133 := by unfold fKp at hf; omega
        refine ⟨?_, ?_, ?_, ?_, ?_, ?_⟩
        · rw [ht13, fI_ne hf'.2.2.1, u10 f hf'.2.2.2, hI7 f hf'.2.1]
        · rw [ht13]
          show fA u f q = _
          rw [u2, ht7, ht4]
          rfl
        · rw [ht13]
          show fR u f q = _
          rw [eR]
        · rw [ht13]
          show fQ u f q = _
          rw [u5, ht7, ht4]
          rfl
        · rw [ht13]
          show fL u f q = _
          rw [u6, hL7, up2_no (fun z => hf'.1 z.1)]
        · rw [ht13]
          show fC u f q = _
          rw [u7, ht7, ht4]
          show up2 (fC S) 176 (rwL S so v i) (fC S 176 (rwL S so v i)) f q = _
          rw [up2_no (fun z => hf'.1 z.1)]
      · exact hzz1
      · exact hzz2
  · refine Or.inl ⟨rfl, fun hz1 hz3 x1 hx1 => ?_⟩
    subst hx1
    refine ⟨fun h9 => absurd hz h9, fun x2 hx2 => i_go1 hz ⟨fun _ => ?_, fun h9 => absurd rfl h9⟩⟩
    exact ⟨thr_same t 1, fun z => absurd z (by decide), hn sz ns _ hz1 hz3 (ag45 t 1)⟩
  · refine Or.inr ⟨rfl, fun hz3 hz4 x1 hx1 => ?_⟩
    subst hx1
    refine ⟨fun _ => hd, fun x2 hx2 => i_go2 hz ?_ ⟨fun _ => ?_, fun h9 => absurd rfl h9⟩⟩
    · rw [hx2, if_neg (fun z => z.2 hz2)]
    · exact ⟨thr_same t 2, fun z => absurd z (by decide), hn sz ns _ hz3 hz4 (ag45 t 2)⟩
end IF
