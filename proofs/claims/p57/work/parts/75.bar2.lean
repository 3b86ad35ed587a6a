/-! addBar: the relation behind it; class and model answer alike -/
section AC
variable {S S' : CS} {t t' : MS} {o so po m : Nat}
theorem rA_bar (hA : rA S t o so po) (hn : zN t < 24) {c u : Nat} (hc : 1 ≤ c ∧ c ≤ 9) (hu : u = 2 ∨ u = 4 ∨ u = 8) (hI : Abr t t' (nI c) (nI u)) (g : Eqf (fun f => f ≠ 192 ∧ f ≠ 199) S S') (hL : fL S' 192 so = fL S 192 so ++ [m]) (hC : fC S' 192 so ≤ 500000) (h0 : kdC S m = 0) (h5 : kdC S' m = 5) (h80 : fI S' 80 m = nI c ∧ fI S' 81 m = nI u ∧ fI S' 82 m = -1)
    (hv : ∀ v, v < 4 → ∃ r, fQ S' 83 m v = some r ∧ kdC S' r = 11 ∧ kdC S r = 0 ∧ fL S' 176 r = [] ∧ fC S' 176 r = 0 ∧ fI S' 177 r = 0 ∧ fI S' 178 r = 0) (hq : ∀ v v2, v < 4 → v2 < 4 → fQ S' 83 m v = fQ S' 83 m v2 → v = v2) : rA S' t' o so po := by
  have hB := rA_B hA
  have hM := rA_M hA
  have hnb := cc_n hB hM
  have hso : kdC S so ≠ 0 := by rw [hB.1]; decide
  obtain ⟨i1, i2, i3, i4, i5, i6, i7⟩ := hI
  have eN : zN t' = zN t + 1 := by unfold zN; rw [i2, aN_nI (by show zN t + 1 < _; omega)]; rfl
  have eE : zE t' = zE t := by funext v i; unfold zE; rw [i3 6 (by decide) (by decide) (by decide) (by decide)]
  obtain ⟨z0, zz⟩ := rA_Z hA
  have nE : ∀ v, v < 4 → t.2 6 (24 * v + zN t) = 0 ∧ t.2 7 (24 * v + zN t) = 0 := fun v hv => zz v (zN t) hv (Nat.le_refl _) hn
  have zEn : ∀ v, v < 4 → zE t v (zN t) = 0 := fun v hv => by unfold zE; rw [(nE v hv).1]; rfl
  have eZS : zS t' = zS t := zS_c (i3 9 (by decide) (by decide) (by decide) (by decide)) (i3 10 (by decide) (by decide) (by decide) (by decide))
  have eKp : zKp t' = zKp t := zKp_c (i3 9 (by decide) (by decide) (by decide) (by decide)) (i3 10 (by decide) (by decide) (by decide) (by decide))
  have eBn : zB t' (zN t) = c := by unfold zB; rw [i4, if_pos rfl, aN_nI (by omega)]
  have eUn : zU t' (zN t) = u := by unfold zU; rw [i5, if_pos rfl, aN_nI (by omega)]
  have eB : ∀ i, i ≠ zN t → zB t' i = zB t i := fun i hi => by unfold zB; rw [i4, if_neg hi]
  have eU : ∀ i, i ≠ zN t → zU t' i = zU t i := fun i hi => by unfold zU; rw [i5, if_neg hi]
  obtain ⟨k1, -, k2⟩ := g so hso
  have em : ∀ i, mrL S' so i = if i < zN t then mrL S so i else if i = zN t then m else 0 := fun i => by
    unfold mrL
    rw [hL, gl_app]
    show (if i < nbS S so then _ else if i = nbS S so then m else 0) = _
    rw [hnb]
  have en : nbS S' so = zN t + 1 := by
    show (fL S' 192 so).length = _
    rw [hL, List.length_append]
    show nbS S so + 1 = _
    rw [hnb]
  have mne : ∀ i, i < zN t → mrL S so i ≠ m := fun i hi z => by
    have := (cc_bar hB hM hi).2.2.2
    rw [z, h0] at this
    exact absurd this (by decide)
  have er : ∀ v i, i < zN t → rwL S' so v i = rwL S so v i := fun v i hi => by
    obtain ⟨-, -, -, b4⟩ := cc_bar hB hM hi
    unfold rwL
    rw [em, if_pos hi, ((g (mrL S so i) (by rw [b4]; decide)).2.2 83 ⟨by decide, by decide⟩).2.2.2.1]
  have ern : ∀ v, rwL S' so v (zN t) = oG (fQ S' 83 m v) := fun v => by
    unfold rwL
    rw [em, if_neg (Nat.lt_irrefl _), if_pos rfl]
  have el : ∀ v i, i < zN t → v < 4 → fL S' 176 (rwL S' so v i) = fL S 176 (rwL S so v i) := fun v i hi hv => by
    obtain ⟨-, -, r3⟩ := cc_rw hB hM hi hv
    rw [er v i hi, ((g (rwL S so v i) (by rw [r3]; decide)).2.2 176 ⟨by decide, by decide⟩).2.2.2.2.1]
  have ev : ∀ v i j, i < zN t → v < 4 → evL S' so v i j = evL S so v i j := fun v i j hi hv => by
    unfold evL
    rw [el v i hi hv]
  have ee : ∀ v i, i < zN t → v < 4 → neS S' so v i = neS S so v i := fun v i hi hv => congrArg List.length (el v i hi hv)
  have een : ∀ v, v < 4 → neS S' so v (zN t) = 0 := fun v hv4 => by
    obtain ⟨r, w1, -, -, w4, -⟩ := hv v hv4
    show (fL S' 176 (rwL S' so v (zN t))).length = 0
    rw [ern, w1]
    show (fL S' 176 r).length = 0
    rw [w4]
    rfl
  have hM' : zM t' := by
    refine ⟨by rw [eN]; exact i2, by omega, fun i hi => ?_⟩
    rw [eN] at hi
    by_cases e : i = zN t
    · subst e
      refine ⟨by rw [eBn, i4, if_pos rfl]; exact ⟨rfl, hc⟩, by rw [eUn, i5, if_pos rfl]; exact ⟨rfl, hu⟩, Or.inl (by rw [i6, if_pos rfl]), fun v hv4 => ?_⟩
      unfold zMr
      rw [eE, zEn v hv4, i3 6 (by decide) (by decide) (by decide) (by decide), i3 7 (by decide) (by decide) (by decide) (by decide), (nE v hv4).1, (nE v hv4).2]
      exact ⟨by omega, rfl, Or.inl rfl, Nat.zero_le _, fun j hj => absurd hj (Nat.not_lt_zero _)⟩
    · obtain ⟨d1, d2, d3, d4⟩ := z_b hM (i := i) (by omega)
      unfold zMb
      rw [eB i e, eU i e, i4, if_neg e, i5, if_neg e, i6, if_neg e]
      refine ⟨d1, d2, d3, fun v hv4 => ?_⟩
      have q := d4 v hv4
      unfold zMr zMe zL at q ⊢
      rw [eE, eZS, eKp, eB i e, eU i e, i3 6 (by decide) (by decide) (by decide) (by decide), i3 7 (by decide) (by decide) (by decide) (by decide), i3 8 (by decide) (by decide) (by decide) (by decide), i3 9 (by decide) (by decide) (by decide) (by decide), i3 10 (by decide) (by decide) (by decide) (by decide), i3 12 (by decide) (by decide) (by decide) (by decide)]
      exact q
  have ho : kdC S o ≠ 0 := by rw [hA.1]; decide
  have hpo : kdC S po ≠ 0 := by rw [hA.2.2.2.1]; decide
  obtain ⟨o1, -, o2⟩ := g o ho
  obtain ⟨p1, -, -⟩ := g po hpo
  refine ⟨o1.trans hA.1, ((o2 224 ⟨by decide, by decide⟩).2.2.1).trans hA.2.1, ((o2 225 ⟨by decide, by decide⟩).2.2.1).trans hA.2.2.1, p1.trans hA.2.2.2.1, ?_, hM', ?_, ?_, ?_, ?_⟩
  · obtain ⟨b1, b2, b3, b4, b5, b6, b7, b8⟩ := hB
    have frn : ∀ v v2 i, v < 4 → v2 < 4 → i < zN t → rwL S so v i ≠ rwL S' so v2 (zN t) := fun v v2 i h1 h2 h3 z => by
      obtain ⟨r, w1, -, w3, -⟩ := hv v2 h2
      have := (cc_rw hA.2.2.2.2.1 hM h3 h1).2.2
      rw [z, ern, w1] at this
      have t9 : kdC S r = 11 := this
      rw [w3] at t9
      exact absurd t9 (by decide)
    refine ⟨k1.trans b1, by omega, hC, by rw [en]; exact i2, fun i hi => ?_, fun i i2 hi hi2 z => ?_, fun v i v2 i2 hi hi2 hv4 hv5 z => ?_, fun v i j v2 i2 j2 hi hi2 hv4 hv5 hj hj2 z => ?_⟩
    · rw [en] at hi
      by_cases e : i = zN t
      · subst e
        unfold rM
        rw [em, if_neg (Nat.lt_irrefl _), if_pos rfl, i4, if_pos rfl, i5, if_pos rfl, i6, if_pos rfl]
        refine ⟨h5, h80.1, h80.2.1, h80.2.2, ⟨c, hc.1, hc.2, rfl⟩, ?_, fun v hv4 => ?_⟩
        · rcases hu with hu | hu | hu <;> rw [hu]
          · exact Or.inl rfl
          · exact Or.inr (Or.inl rfl)
          · exact Or.inr (Or.inr rfl)
        · obtain ⟨r, w1, w2, w3, w4, w5, w6, w7⟩ := hv v hv4
          have hr : rwL S' so v (zN t) = r := by rw [ern, w1]; rfl
          unfold rR
          rw [em, if_neg (Nat.lt_irrefl _), if_pos rfl, een v hv4, hr, w1, i3 6 (by decide) (by decide) (by decide) (by decide), i3 7 (by decide) (by decide) (by decide) (by decide), (nE v hv4).1, (nE v hv4).2, w5, w6, w7]
          exact ⟨fun z => (by cases z), w2, by omega, rfl, rfl, Or.inl rfl, by omega, rfl, fun j hj => absurd hj (Nat.not_lt_zero _)⟩
      · have hi3 : i < zN t := by omega
        obtain ⟨m1, m2, m3, m4, m5, m6, m7⟩ := b5 i (by omega)
        obtain ⟨q1, -, q2⟩ := g (mrL S so i) (by rw [m1]; decide)
        unfold rM
        rw [em, if_pos hi3, i4, if_neg e, i5, if_neg e, i6, if_neg e]
        refine ⟨q1.trans m1, (q2 80 ⟨by decide, by decide⟩).1.trans m2, (q2 81 ⟨by decide, by decide⟩).1.trans m3, (q2 82 ⟨by decide, by decide⟩).1.trans m4, m5, m6, fun v hv4 => ?_⟩
        obtain ⟨r0, r1, r2, r3, r4, r5, r6, r7, r8⟩ := m7 v hv4
        obtain ⟨s1, -, s2⟩ := g (rwL S so v i) (by rw [r1]; decide)
        unfold rR
        rw [em, if_pos hi3, ee v i hi3 hv4, er v i hi3, (q2 83 ⟨by decide, by decide⟩).2.2.2.1, i3 6 (by decide) (by decide) (by decide) (by decide), i3 7 (by decide) (by decide) (by decide) (by decide), i3 9 (by decide) (by decide) (by decide) (by decide), i3 10 (by decide) (by decide) (by decide) (by decide)]
        refine ⟨r0, s1.trans r1, r2, r3, (s2 178 ⟨by decide, by decide⟩).1.trans r4, r5, by rw [(s2 176 ⟨by decide, by decide⟩).2.2.2.2.2]; exact r6, (s2 177 ⟨by decide, by decide⟩).1.trans r7, fun j hj => ?_⟩
        obtain ⟨e1, e2, e3, e4, e5, e6, e7⟩ := r8 j hj
        obtain ⟨t1, -, t2⟩ := g (evL S so v i j) (by rw [e1]; decide)
        rw [ev v i j hi3 hv4]
        unfold rE
        rw [i3 8 (by decide) (by decide) (by decide) (by decide), i3 9 (by decide) (by decide) (by decide) (by decide), i3 10 (by decide) (by decide) (by decide) (by decide), i3 11 (by decide) (by decide) (by decide) (by decide), i3 12 (by decide) (by decide) (by decide) (by decide)]
        exact ⟨t1.trans e1, (t2 50 ⟨by decide, by decide⟩).1.trans e2, (t2 49 ⟨by decide, by decide⟩).1.trans e3, (t2 52 ⟨by decide, by decide⟩).1.trans e4, (t2 51 ⟨by decide, by decide⟩).1.trans e5, (t2 48 ⟨by decide, by decide⟩).1.trans e6, e7⟩
    · rw [en] at hi hi2
      rw [em, em] at z
      by_cases e1 : i = zN t
      · by_cases e2 : i2 = zN t
        · omega
        · rw [if_neg (by omega), if_pos e1, if_pos (by omega)] at z
          exact absurd z.symm (mne i2 (by omega))
      · by_cases e2 : i2 = zN t
        · rw [if_pos (by omega), if_neg (by omega), if_pos e2] at z
          exact absurd z (mne i (by omega))
        · rw [if_pos (by omega), if_pos (by omega)] at z
          exact b6 i i2 (by omega) (by omega) z
    · rw [en] at hi hi2
      by_cases e1 : i = zN t
      · by_cases e2 : i2 = zN t
        · rw [e1, e2, ern, ern] at z
          obtain ⟨r, w1, -⟩ := hv v hv4
          obtain ⟨r2, w2, -⟩ := hv v2 hv5
          refine ⟨hq v v2 hv4 hv5 ?_, by omega⟩
          rw [w1, w2] at z ⊢
          exact congrArg some z
        · rw [e1, er v2 i2 (by omega)] at z
          exact absurd z.symm (frn v2 v i2 hv5 hv4 (by omega))
      · by_cases e2 : i2 = zN t
        · rw [e2, er v i (by omega)] at z
          exact absurd z (frn v v2 i hv4 hv5 (by omega))
        · rw [er v i (by omega), er v2 i2 (by omega)] at z
          exact b7 v i v2 i2 (by omega) (by omega) hv4 hv5 z
    · rw [en] at hi hi2
      have n1 : i ≠ zN t := fun e => by rw [e, een v hv4] at hj; exact absurd hj (Nat.not_lt_zero _)
      have n2 : i2 ≠ zN t := fun e => by rw [e, een v2 hv5] at hj2; exact absurd hj2 (Nat.not_lt_zero _)
      rw [ee v i (by omega) hv4] at hj
      rw [ee v2 i2 (by omega) hv5] at hj2
      rw [ev v i j (by omega) hv4, ev v2 i2 j2 (by omega) hv5] at z
      exact b8 v i j v2 i2 j2 (by omega) (by omega) hv4 hv5 hj hj2 z
  · obtain ⟨c1, c2, c3, c4, c5, c6⟩ := rA_P hA
    have eph : ∀ k, phL S' so k = phL S so k := fun k => by
      unfold phL
      rw [(k2 193 ⟨by decide, by decide⟩).2.2.2.2.1]
    have enp : npS S' so = npS S so := by
      unfold npS
      rw [(k2 193 ⟨by decide, by decide⟩).2.2.2.2.1]
    refine ⟨by rw [enp]; exact c1, by rw [enp, i1 14 (by decide) (by decide)]; exact c2, by rw [(k2 193 ⟨by decide, by decide⟩).2.2.2.2.2]; exact c3, fun k hk2 => ?_, fun k k3 hk2 hk3 z => ?_, fun k hk2 hk3 => ?_⟩
    · rw [enp] at hk2
      obtain ⟨d1, d2, d3, d4, d5, d6, d7, d8, d9⟩ := c4 k hk2
      obtain ⟨u1, -, u2⟩ := g (phL S so k) (by rw [d1]; decide)
      unfold rPk rPe
      rw [eph, (u2 131 ⟨by decide, by decide⟩).2.2.1, (u2 132 ⟨by decide, by decide⟩).2.2.1, i3 15 (by decide) (by decide) (by decide) (by decide), i3 16 (by decide) (by decide) (by decide) (by decide), i3 17 (by decide) (by decide) (by decide) (by decide), i3 18 (by decide) (by decide) (by decide) (by decide), i3 19 (by decide) (by decide) (by decide) (by decide), i3 20 (by decide) (by decide) (by decide) (by decide), eN, eE]
      refine ⟨u1.trans d1, (u2 128 ⟨by decide, by decide⟩).1.trans d2, (u2 129 ⟨by decide, by decide⟩).1.trans d3, (u2 130 ⟨by decide, by decide⟩).1.trans d4, (u2 133 ⟨by decide, by decide⟩).1.trans d5, d6, d7, d8, fun z => ?_⟩
      obtain ⟨v, i, j, i2, j2, f1, f2, f3, f4, f5, f6, f7, f8, f9, f10, f11, f12⟩ := d9 z
      exact ⟨v, i, j, i2, j2, f1, by omega, f3, by omega, f5, f6, f7, f8, f9, f10, by rw [ev v i j f2 f1]; exact f11, by rw [ev v i2 j2 f4 f1]; exact f12⟩
    · rw [enp] at hk2 hk3
      rw [eph, eph] at z
      exact c5 k k3 hk2 hk3 z
    · rw [enp] at hk2
      rw [i3 20 (by decide) (by decide) (by decide) (by decide)]
      exact c6 k hk2 hk3
  · obtain ⟨b1, b2, b3, b4, b5, b6⟩ := rA_T hA
    have ep : ∀ k, rtL S' so k = rtL S so k := fun k => by
      unfold rtL
      rw [(k2 194 ⟨by decide, by decide⟩).2.2.2.2.1]
    have enr : nrS S' so = nrS S so := by
      unfold nrS
      rw [(k2 194 ⟨by decide, by decide⟩).2.2.2.2.1]
    have kr : ∀ k, k < nrS S so → kdC S (rtL S so k) ≠ 0 := fun k hk => by rw [(b4 k hk).1]; decide
    have e160 : ∀ k, k < nrS S so → fI S' 160 (rtL S so k) = fI S 160 (rtL S so k) := fun k hk => ((g (rtL S so k) (kr k hk)).2.2 160 ⟨by decide, by decide⟩).1
    have ecn : ∀ k, k ≤ zN t → zCn t' k = zCn t k := by
      intro k
      induction k with
      | zero => intro _; rfl
      | succ k ih =>
        intro hk
        show (if t'.2 4 k = -1 then zCn t' k else zCn t' k + 1) = (if t.2 4 k = -1 then zCn t k else zCn t k + 1)
        have e4 : t'.2 4 k = t.2 4 k := by rw [i7, if_neg (by omega)]
        rw [e4, ih (by omega)]
    refine ⟨by rw [(k2 194 ⟨by decide, by decide⟩).2.2.2.2.2]; exact b1, fun i hi hy => ?_, ?_, fun k hk => ?_, fun i hi hy => ?_, fun k k3 hk hk3 z => ?_⟩
    · rw [eN] at hi ⊢
      have hy' : ¬ t'.2 4 i = -1 := hy
      have ne : i ≠ zN t := fun z => hy' (by rw [i7, if_pos z])
      rw [i7, if_neg ne] at hy'
      unfold zO zG
      rw [i7, if_neg ne, i3 5 (by decide) (by decide) (by decide) (by decide)]
      obtain ⟨r1, r2, r3, r4, r5, r6⟩ := b2 i (by omega) hy'
      have r4' : aN (t.2 4 i) < zN t := r4
      refine ⟨r1, r2, r3, by omega, r5, fun i3 i4 i5 => ?_⟩
      rw [i7, if_neg (by omega)]
      exact r6 i3 i4 i5
    · rw [eN, enr, ← b3]
      show (if t'.2 4 (zN t) = -1 then zCn t' (zN t) else zCn t' (zN t) + 1) = _
      rw [i7, if_pos rfl, if_pos rfl, ecn _ (Nat.le_refl _)]
    · rw [enr] at hk
      obtain ⟨c1, i, c2, c3, c4, c5, c6⟩ := b4 k hk
      obtain ⟨q1, -, q2⟩ := g (rtL S so k) (kr k hk)
      have ne : i ≠ zN t := by omega
      rw [ep, eN]
      refine ⟨q1.trans c1, i, by omega, ?_, (q2 160 ⟨by decide, by decide⟩).1.trans c4, ?_, ?_⟩
      · show ¬ t'.2 4 i = -1
        rw [i7, if_neg ne]
        exact c3
      · rw [i7, if_neg ne]
        exact (q2 161 ⟨by decide, by decide⟩).1.trans c5
      · rw [i3 5 (by decide) (by decide) (by decide) (by decide)]
        exact (q2 162 ⟨by decide, by decide⟩).1.trans c6
    · rw [eN] at hi
      have hy' : ¬ t'.2 4 i = -1 := hy
      have ne : i ≠ zN t := fun z => hy' (by rw [i7, if_pos z])
      rw [i7, if_neg ne] at hy'
      obtain ⟨k, c1, c2⟩ := b5 i (by omega) hy'
      refine ⟨k, by rw [enr]; exact c1, ?_⟩
      rw [ep, e160 k c1]
      exact c2
    · rw [enr] at hk hk3
      rw [ep, ep, e160 k hk, e160 k3 hk3] at z
      exact b6 k k3 hk hk3 z
  · exact rS_c hso (rA_S hA) (Eqf_sub (fun f z => by unfold fS0 at z; omega) g) (i3 13 (by decide) (by decide) (by decide) (by decide)) (i1 21 (by decide) (by decide)) (i1 22 (by decide) (by decide)) (i1 23 (by decide) (by decide))
  · refine ⟨by rw [i3 26 (by decide) (by decide) (by decide) (by decide)]; exact z0, fun v i hv4 hi hi3 => ?_⟩
    rw [eN] at hi
    rw [i3 6 (by decide) (by decide) (by decide) (by decide), i3 7 (by decide) (by decide) (by decide) (by decide)]
    exact zz v i hv4 (by omega) hi3
end AC
section AD
variable {lb : Nat × Nat} {o so po : Nat} {I : Nat → CS → MS → Prop}
end AD
