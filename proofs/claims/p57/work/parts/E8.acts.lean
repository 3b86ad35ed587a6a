/-! P57: THE LAW'S METHODS (9): acts -/
section DZ
variable {b B : Nat × Nat} {o so po n ga ta v i : Nat} {S : CS} {A A' : MS} {r : LR} {Q : Int32 → LwS → Prop}
theorem gdW_bar (hZ : zZ A) (h : gdW A) {c u : Int32} (hN : zN A < 24) : gdW (abrA A c u) ∧ zN (abrA A c u) = zN A + 1 ∧ ∀ v, v < 4 → zE (abrA A c u) v (zN A) = 0 := by
  have hI : Abr A (abrA A c u) c u := abrA_ok
  have e0 : zN (abrA A c u) = zN A + 1 := by
    unfold zN
    rw [hI.2.1]
    exact aN_nI (by omega)
  have h6 : (abrA A c u).2 6 = A.2 6 := hI.2.2.1 6 (by decide) (by decide) (by decide) (by decide)
  have hE : ∀ v, v < 4 → zE (abrA A c u) v (zN A) = 0 := fun v hv => by
    unfold zE
    rw [h6, (hZ.2 v (zN A) hv (Nat.le_refl _) hN).1]
    rfl
  refine ⟨⟨fun v i j hv hi hj => ?_, fun v hv => ?_⟩, e0, hE⟩
  · rw [e0] at hi
    by_cases e : i = zN A
    · rw [e, hE v hv] at hj
      exact absurd hj (Nat.not_lt_zero _)
    · rw [zE_c h6] at hj
      exact evG_c (h.1 v i j hv (by omega) hj) (congrFun (hI.2.2.1 11 (by decide) (by decide) (by decide) (by decide)) _) (congrFun (hI.2.2.1 8 (by decide) (by decide) (by decide) (by decide)) _)
  · rw [hI.2.2.1 13 (by decide) (by decide) (by decide) (by decide)]
    exact h.2 v hv
theorem pf_acts (hb : hB b B) (I : lwI b o so po r ga ta (n + 2600) S A) (hne : ga ≠ ta) {x y : Int32} (h : ∀ S' A' r', lwI b o so po r' ga ta n S' A' → Q 1 (S', r')) : w_L_acts B o ga ta x y (S, r) Q := by
  have hA := Jp_A I.1
  have hM := rA_M hA
  have hn24 := hM.2.1
  have hg := I.2.2.1
  have ht := I.2.2.2
  have hW := I.2.1
  have hgz := gR_z hg hM
  have J := I.1
  unfold w_L_acts
  dsimp only
  rw [hgz]
  refine ⟨vp4_0 hg, True, fun _ => ?_, fun _ => trivial, fun z3 => ⟨low_d (d := 16) (by decide) (by decide) _, fun _ => trivial, fun _ => ⟨low_d (d := 3) (by decide) (by decide) _, fun x t => x = 1 ∧ ∃ S' A' r', t = ((S', r') : LwS) ∧ lwI b o so po r' ga ta n S' A', ?_, fun _ => ?_, fun _ => ?_⟩⟩⟩
  · obtain ⟨q1, hq1, eq1⟩ := low_in y (d := 9) (by decide) (by decide)
    obtain ⟨q2, hq2, eq2⟩ := low_in (y >>> (4 &&& 31)) (d := 3) (by decide) (by decide)
    obtain ⟨u, hu, eu⟩ := u_of hq2
    refine ⟨low_d (d := 9) (by decide) (by decide) _, fun x3 hx3 => ⟨low_d (d := 3) (by decide) (by decide) _, fun x5 hx5 => ⟨vp4_0 hg, fun _ => vp4_0 hg, fun x7 hx7 => ⟨vp4_0 hg, fun x10 hx10 => ⟨vp4_0 hg, fun t12 ht12 => ?_⟩⟩⟩⟩⟩
    have e22 : x3 = nI (1 + q1) := by rw [hx3, show v_L_low y 9 = nI q1 from eq1]; exact nI_add 1 q1
    have e24 : x5 = nI u := by rw [hx5, show v_L_low (y >>> (4 &&& 31)) 3 = nI q2 from eq2]; exact eu
    obtain ⟨c, hc⟩ : ∃ c, c = 1 + q1 := ⟨_, rfl⟩
    rw [← hc] at e22
    rw [e22, e24]
    obtain ⟨qq, hqq⟩ : ∃ qq, qq = 96 * c / u := ⟨_, rfl⟩
    have e96 : (96 : Int32) * nI c / nI u = nI qq := by rw [hqq]; exact len_nI (by omega) hu
    have hu0 : ¬ nI u = 0 := nI_ne0 (by omega) (by omega)
    obtain ⟨f, f1, f2, f3, f4, f5⟩ := id hg
    obtain ⟨r2, hr2⟩ : ∃ r2, r2 = rPut r ga (4, va_up f 0 (nI (zN A) + x10)) := ⟨_, rfl⟩
    have e12 : t12 = ((S, r2) : LwS) := by
      rw [ht12, hr2]
      show ((S, rPut r ga (rN r ga, va_up (rG r ga) (Int32.toNatClampNeg 0) (nI (zN A) + x10))) : LwS) = _
      rw [rN_some f1, rG_some f1]
      rfl
    have ht2 : ∀ A' : MS, A'.2 13 = A.2 13 → tRow r2 ta A' := fun A' e => by
      obtain ⟨f6, f7, f8⟩ := ht
      refine ⟨f6, ?_, fun v2 hv2 => ?_⟩
      · rw [hr2, rPut_ne (Ne.symm hne)]
        exact f7
      · rw [e]
        exact f8 v2 hv2
    have hg2 : ∀ A' : MS, A'.1 0 = nI (zN A) + x10 → (∀ k, k ≠ 45 → k ≠ 0 → A'.1 k = A.1 k) → gRow r2 ga A' := fun A' e e2 => by
      refine ⟨_, by rw [hr2, rPut_at], e.symm, ?_, ?_, ?_⟩
      · rw [e2 21 (by decide) (by decide)]
        exact f3
      · rw [e2 22 (by decide) (by decide)]
        exact f4
      · rw [e2 23 (by decide) (by decide)]
        exact f5
    rw [e12]
    by_cases hN : zN A < 24
    · have e7 : x7 = nI (zN A) := hx7.trans (if_neg (nI_ge (a := zN A) (b := 24) hN (by decide)))
      have e10 : x10 = 1 := by rw [hx10, e7]; exact if_pos (nI_le (a := 0) (b := zN A) (Nat.zero_le _) (by omega))
      have J' : Jp b o so po (n + 2500 + 100) S A := Jp_dn J (by omega)
      refine ba_ok (n := n + 2500) (r := r2) hb J' (by omega) (by omega) hu hN (fun S1 J1 => ?_)
      obtain ⟨hW1, hN1, hE1⟩ := gdW_bar (c := nI c) (u := nI u) (rA_Z hA) hW hN
      have hI : Abr A (abrA A (nI c) (nI u)) (nI c) (nI u) := abrA_ok
      obtain ⟨A1, hA1⟩ : ∃ A1, A1 = abrA A (nI c) (nI u) := ⟨_, rfl⟩
      rw [← hA1] at hI J1 hW1 hN1 hE1
      have I1 : ∀ m S', Jp b o so po m S' A1 → lwI b o so po r2 ga ta m S' A1 := fun m S' J => ⟨J, hW1, hg2 A1 (by rw [hI.2.1, e10, nI_1]) hI.1, ht2 A1 (hI.2.2.1 13 (by decide) (by decide) (by decide) (by decide))⟩
      have hi1 : zN A < zN A1 := by omega
      have hL1 : zL A1 (zN A) = qq := by
        unfold zL zB zU
        rw [hI.2.2.2.1, hI.2.2.2.2.1, if_pos rfl, if_pos rfl, aN_nI (by omega), aN_nI (by omega), hqq]
      rw [e7]
      refine ⟨fun x t => x = 1 ∧ ∃ S', t = ((S', r2) : LwS) ∧ Jp b o so po n S' A1, ?_, fun _ => False, fun _ z => z.elim, fun _ => ?_, fun z => absurd rfl z⟩
      · rintro _ _ ⟨rfl, S', rfl, J'⟩
        exact ⟨Or.inr rfl, h S' A1 r2 (I1 _ _ J')⟩
      refine ba_bad (n := n + 2400) hb J1 (by decide) (fun S2 J2 => ⟨fun _ => ?_, fun z => absurd rfl z⟩)
      refine ba_bad (n := n + 2300) hb J2 (by decide) (fun S3 J3 => ⟨fun _ => ?_, fun z => absurd rfl z⟩)
      refine ⟨fun t => ∃ S', t = ((S', r2) : LwS) ∧ Jp b o so po n S' A1, fun t g => ⟨rfl, g⟩, fun z => absurd z (nI_pos (by omega)), fun _ => ?_⟩
      refine rd_length (n := n + 2299) hb J3 hi1 (fun S4 J4 => ⟨hu0, fun _ => ?_, fun z => absurd (by rw [hL1, e96]) z⟩)
      refine rd_left (n := n + 2298) (v := 3) hb J4 (by decide) hi1 (fun S5 J5 => ?_)
      rw [hE1 3 (by decide)]
      refine rd_length (n := n + 2297) hb J5 hi1 (fun S6 J6 => ⟨fun _ => ?_, fun z => absurd rfl z⟩)
      refine rd_isRight (n := n + 2296) (v := 0) hb J6 (by decide) hi1 (fun _ S7 J7 => ⟨fun _ => ⟨S7, rfl, Jp_dn J7 (by omega)⟩, fun z => absurd rfl z⟩) (fun z => absurd ?_ z)
      have hE0 := hE1 0 (by decide)
      exact ⟨Or.inl hE0, by rw [hE0]; trivial, by rw [hE0]; rfl⟩
    · have hN24 : zN A = 24 := by omega
      have e7 : x7 = -1000003 := hx7.trans (if_pos (nI_le (a := 24) (b := zN A) (by omega) (by omega)))
      have e10 : x10 = 0 := by rw [hx10, e7]; rfl
      have J' : Jp b o so po (n + 2500 + 100) S A := Jp_dn J (by omega)
      refine ba_full (n := n + 2500) (r := r2) hb J' (by omega) (by omega) hu hN (fun S1 J1 => ?_)
      have I1 : ∀ m S', Jp b o so po m S' A → lwI b o so po r2 ga ta m S' A := fun m S' J => ⟨J, hW, hg2 A (by rw [e10]; exact hM.1.trans (nI_add (zN A) 0).symm) (fun _ _ _ => rfl), ht2 A rfl⟩
      rw [e7]
      refine ⟨fun x t => x = 1 ∧ ∃ S', t = ((S', r2) : LwS) ∧ Jp b o so po n S' A, ?_, fun _ => False, fun _ z => z.elim, fun _ => ?_, fun z => absurd rfl z⟩
      · rintro _ _ ⟨rfl, S', rfl, J'⟩
        exact ⟨Or.inr rfl, h S' A r2 (I1 _ _ J')⟩
      refine ba_bad (n := n + 2400) hb J1 (by decide) (fun S2 J2 => ⟨fun _ => ?_, fun z => absurd rfl z⟩)
      refine ba_bad (n := n + 2300) hb J2 (by decide) (fun S3 J3 => ⟨fun _ => ?_, fun z => absurd rfl z⟩)
      exact ⟨fun t => ∃ S', t = ((S', r2) : LwS) ∧ Jp b o so po n S' A, fun t g => ⟨rfl, g⟩, fun _ => ⟨S3, rfl, Jp_dn J3 (by omega)⟩, fun z => absurd (by decide) z⟩
  · rintro _ _ ⟨rfl, S', A', r', rfl, I'⟩
    exact ⟨Or.inr rfl, h S' A' r' I'⟩
  · have h3 : 3 ≤ zN A := Nat.le_of_not_lt fun z => z3 (nI_lt (b := 3) z (by decide))
    exact lc_own hb J (pf_tells (n := n) hb (lwI_dn I (by omega)) hne h3 (fun S' A' r' I' _ _ => ⟨rfl, S', A', r', rfl, I'⟩))
  · have h3 : 3 ≤ zN A := Nat.le_of_not_lt fun z => z3 (nI_lt (b := 3) z (by decide))
    exact lc_own hb J (pf_edits (n := n) hb (lwI_dn I (by omega)) h3 (fun S' A' I' _ _ => ⟨rfl, S', A', r, rfl, I'⟩))
end DZ
