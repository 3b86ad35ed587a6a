/-! P57: THE LAW'S METHODS (8): tells -/
section DT
variable {b B : Nat × Nat} {o so po n ga ta v i : Nat} {S : CS} {A A' : MS} {r : LR} {Q : Int32 → LwS → Prop}
theorem nI_m3 {a : Nat} (h : a < 2147483648) : ¬ nI a = -1000003 := fun z => by
  have e : (nI a).toInt = (-1000003 : Int32).toInt := by rw [z]
  rw [nI_toInt h] at e
  exact absurd e (by show ¬ (a : Int) = -1000003; omega)
theorem zMx_s {k x : Nat} : zMx A i (k + 1) ≤ x ↔ zMx A i k ≤ x ∧ zS A k i (zE A k i) ≤ x := by
  rw [zMx_le, zMx_le]
  refine ⟨fun h => ⟨fun v hv => h v (by omega), h k (by omega)⟩, fun h v hv => ?_⟩
  by_cases c : v = k
  · rw [c]
    exact h.2
  · exact h.1 v (by omega)
theorem u_of {q : Nat} (hq : q < 3) : ∃ u : Nat, (u = 2 ∨ u = 4 ∨ u = 8) ∧ (2 : Int32) <<< (nI q &&& 31) = nI u := by
  rcases (show q = 0 ∨ q = 1 ∨ q = 2 by omega) with c | c | c <;> rw [c]
  · exact ⟨2, Or.inl rfl, by decide⟩
  · exact ⟨4, Or.inr (Or.inl rfl), by decide⟩
  · exact ⟨8, Or.inr (Or.inr rfl), by decide⟩
theorem by_of {q : Nat} (hq : q < 25) : ¬ v_in (nI q - 12) (-12) 12 = 0 := by
  have e1 : (nI q - 12).toInt = (q : Int) - 12 := by
    rw [Int32.toInt_sub, nI_toInt (by omega), show (12 : Int32).toInt = 12 by decide]
    exact Int.bmod_eq_of_le (by omega) (by omega)
  intro z
  rcases r_out.mpr z with z | z
  · have := Int32.lt_iff_toInt_lt.mp z
    rw [e1, show (-12 : Int32).toInt = -12 by decide] at this
    omega
  · refine z (Int32.le_iff_toInt_le.mpr ?_)
    rw [e1, show (12 : Int32).toInt = 12 by decide]
    omega
theorem pf_tells (hb : hB b B) (I : lwI b o so po r ga ta (n + 1000) S A) (hne : ga ≠ ta) (h3 : 3 ≤ zN A) {x y : Int32} (h : ∀ S' A' r', lwI b o so po r' ga ta n S' A' → Q 1 (S', r')) : w_L_tells B o ga ta x y (S, r) Q := by
  have hA := Jp_A I.1
  have hM := rA_M hA
  have hMt := (rA_T hA).2.1
  have hn24 := hM.2.1
  have hg := I.2.2.1
  have ht := I.2.2.2
  have hW := I.2.1
  have hgz := gR_z hg hM
  have J := I.1
  obtain ⟨i, hi, ei⟩ := low_in y (d := zN A) (by omega) (by omega)
  have hLL := z_len hM hi
  unfold w_L_tells
  dsimp only
  refine ⟨low_d (d := 8) (by decide) (by decide) _, fun x2 hx2 => ⟨vp4_0 hg, by rw [hgz]; exact low_d (by omega) (by omega) _, fun x5 hx5 => ?_⟩⟩
  have e5 : x5 = nI i := by rw [hx5, hgz]; exact ei
  rw [e5]
  have JJ : ∀ x t, (x = (1 : Int32) ∧ ∃ S' A', t = ((S', r) : LwS) ∧ lwI b o so po r ga ta n S' A') → gb x ∧ Q x t := by
    rintro _ _ ⟨rfl, S', A', rfl, I'⟩
    exact ⟨Or.inr rfl, h S' A' r I'⟩
  refine ⟨fun _ => ?_, fun _ => ⟨fun _ => ?_, fun _ => ⟨fun _ => ?_, fun _ => ⟨fun _ => ?_, fun _ => ⟨fun _ => ?_, fun _ => ⟨fun _ => ?_, fun _ => ⟨low_d (d := 4) (by decide) (by decide) _, fun x116 hx116 => ⟨fun _ => ?_, fun _ => ?_⟩⟩⟩⟩⟩⟩⟩⟩
  · -- tempo
    obtain ⟨q, hq, eq⟩ := low_in (y >>> (7 &&& 31)) (d := 211) (by decide) (by decide)
    refine ⟨low_d (d := 3) (by decide) (by decide) _, fun _ => low_d (d := 211) (by decide) (by decide) _, fun x7 hx7 => ?_⟩
    have hx : x7 = -1 ∨ ∃ m : Nat, 30 ≤ m ∧ m ≤ 240 ∧ x7 = nI m := by
      by_cases c : v_L_low (y >>> (5 &&& 31)) 3 = 0
      · rw [if_pos c] at hx7
        exact Or.inl hx7
      · rw [if_neg c] at hx7
        refine Or.inr ⟨30 + q, by omega, by omega, ?_⟩
        rw [hx7, show v_L_low (y >>> (7 &&& 31)) 211 = nI q from eq]
        exact nI_add 30 q
    have hok : x7 = -1 ∨ ¬ v_in x7 30 240 = 0 := hx.imp id (fun ⟨m, m1, m2, e⟩ => by rw [e]; exact in_rng (x := 30) (y := 240) m1 m2 (by decide))
    refine mu_setTempo (n := n + 800) hb (Jp_dn J (by omega)) hi hok (fun S3 J3 => ?_)
    obtain ⟨A1, hA1⟩ : ∃ A1, A1 = msA (msI A 45 0) 3 (nI i) x7 := ⟨_, rfl⟩
    have hW1 : gdW A1 := by rw [hA1]; exact gdW_k hW rfl (mA_ne (by decide)) (mA_ne (by decide)) (mA_ne (by decide)) (mA_ne (by decide))
    have I1 : ∀ m S', Jp b o so po m S' A1 → lwI b o so po r ga ta m S' A1 := fun m S' J => lwI_k I J (by rw [hA1]; rfl) (by rw [hA1]; rfl) (by rw [hA1]; rfl) (by rw [hA1]; rfl) (by rw [hA1]; exact mA_ne (by decide)) hW1
    have hi1 : i < zN A1 := by rw [hA1]; exact hi
    have h31 : A1.2 3 i = x7 := by rw [hA1]; exact (mA_at (by omega)).trans (if_pos rfl)
    rw [← hA1] at J3
    refine ⟨_, JJ, fun _ => False, fun _ z => z.elim, fun z => ?_, fun _ => ?_⟩
    · rcases (hM.2.2 i hi).2.2.1 with e | ⟨e, e2, e3⟩ <;> rw [e] at z
      · exact absurd z (by decide)
      · exact absurd (Int32.lt_of_lt_of_le z (by decide)) (nI_pos (by omega))
    · refine mu_setTempo (n := n + 600) hb (Jp_dn J3 (by omega)) hi1 hok (fun S4 J4 => ⟨fun _ => ?_, fun z => absurd h31 z⟩)
      obtain ⟨A2, hA2⟩ : ∃ A2, A2 = msA (msI A1 45 0) 3 (nI i) x7 := ⟨_, rfl⟩
      have hW2 : gdW A2 := by rw [hA2]; exact gdW_k hW1 rfl (mA_ne (by decide)) (mA_ne (by decide)) (mA_ne (by decide)) (mA_ne (by decide))
      have I2 : ∀ m S', Jp b o so po m S' A2 → lwI b o so po r ga ta m S' A2 := fun m S' J => lwI_k (I1 _ _ J3) J (by rw [hA2]; rfl) (by rw [hA2]; rfl) (by rw [hA2]; rfl) (by rw [hA2]; rfl) (by rw [hA2]; exact mA_ne (by decide)) hW2
      have hi2 : i < zN A2 := by rw [hA2]; exact hi1
      have h32 : A2.2 3 i = x7 := by rw [hA2]; exact (mA_at (by omega)).trans (if_pos rfl)
      rw [← hA2] at J4
      have hg2 := (I2 _ _ J4).2.2.1
      refine ⟨fun t => ∃ S', t = ((S', r) : LwS) ∧ Jp b o so po (n + 500) S' A2, ?_, fun _ => ⟨S4, rfl, Jp_dn J4 (by omega)⟩, fun z => ?_⟩
      · rintro _ ⟨S5, rfl, J5⟩
        refine no_tempo_bad (n := n + 499) hb J5 hi2 (by decide) (by decide) (fun S6 J6 => ⟨fun _ => ?_, fun z => absurd rfl z⟩)
        refine no_tempo_bad (n := n + 498) hb J6 hi2 (by decide) (by decide) (fun S7 J7 => ⟨fun _ => ⟨vp4_0 hg2, ?_⟩, fun z => absurd rfl z⟩)
        dsimp only
        rw [gR_z hg2 (rA_M (Jp_A J7))]
        exact no_tempo_out (n := n + 497) hb J7 (isBar_n (rA_M (Jp_A J7))) 0 (fun S8 J8 => ⟨fun _ => ⟨rfl, S8, A2, rfl, I2 _ _ (Jp_dn J8 (by omega))⟩, fun z => absurd rfl z⟩)
      · refine rd_tempo (n := n + 599) hb J4 hi2 (fun S5 J5 => ⟨fun _ => ⟨S5, rfl, Jp_dn J5 (by omega)⟩, fun z2 => absurd ?_ z2⟩)
        rcases hx with e | ⟨m, m1, m2, e⟩
        · rw [e] at z
          exact absurd (by decide) z
        · have hz : zP A2 (i + 1) = m := by
            show (if A2.2 3 i = -1 then zP A2 i else aN (A2.2 3 i)) = m
            rw [h32, e, if_neg (fun z9 => ?_), aN_nI (by omega)]
            have : (nI m).toInt = (-1 : Int32).toInt := by rw [z9]
            rw [nI_toInt (by omega)] at this
            exact absurd this (by show ¬ (m : Int) = -1; omega)
          rw [hz, e]
  · -- metre
    obtain ⟨q1, hq1, eq1⟩ := low_in (y >>> (5 &&& 31)) (d := 9) (by decide) (by decide)
    obtain ⟨q2, hq2, eq2⟩ := low_in (y >>> (9 &&& 31)) (d := 3) (by decide) (by decide)
    obtain ⟨u, hu, eu⟩ := u_of hq2
    refine ⟨low_d (d := 9) (by decide) (by decide) _, fun x22 hx22 => ⟨low_d (d := 3) (by decide) (by decide) _, fun x24 hx24 => ?_⟩⟩
    have e22 : x22 = nI (1 + q1) := by rw [hx22, show v_L_low (y >>> (5 &&& 31)) 9 = nI q1 from eq1]; exact nI_add 1 q1
    have e24 : x24 = nI u := by rw [hx24, show v_L_low (y >>> (9 &&& 31)) 3 = nI q2 from eq2]; exact eu
    obtain ⟨c, hc⟩ : ∃ c, c = 1 + q1 := ⟨_, rfl⟩
    rw [← hc] at e22
    rw [e22, e24]
    obtain ⟨qq, hqq⟩ : ∃ qq, qq = 96 * c / u := ⟨_, rfl⟩
    have e96 : (96 : Int32) * nI c / nI u = nI qq := by rw [hqq]; exact len_nI (by omega) hu
    have hq432 : qq ≤ 432 := by rw [hqq]; rcases hu with hu | hu | hu <;> rw [hu] <;> omega
    have hu0 : ¬ nI u = 0 := nI_ne0 (by omega) (by omega)
    refine rd_length (n := n + 999) hb J hi (fun S1 J1 => ?_)
    refine lp_for (fun k s => ∃ S', s = ((if zMx A i k ≤ qq then (1 : Int32) else 0), nI k, ((S', r) : LwS)) ∧ Jp b o so po (n + 900 + 2 * (4 - k)) S' A) 4 ?_ ?_ 0 (Nat.zero_le _) _ ⟨S1, by rw [if_pos (show zMx A i 0 ≤ qq from Nat.zero_le _)]; rfl, Jp_dn J1 (by omega)⟩
    · rintro k hk K s ⟨S2, rfl, J2⟩ hK
      have hzs : zS A k i (zE A k i) ≤ zL A i := z_sL hM hi hk (Nat.le_refl _)
      have es : nI (zL A i) - nI (zL A i - zS A k i (zE A k i)) = nI (zS A k i (zE A k i)) := by
        rw [pk_sub (by omega)]
        congr 1
        omega
      unfold w_L_tells_L191
      dsimp only
      rw [nI_1]
      refine ⟨fun z => absurd z (nI_ge (a := k) (b := 4) hk (by decide)), fun _ => ⟨fun x t => x = (if zMx A i (k + 1) ≤ qq then (1 : Int32) else 0) ∧ ∃ S', t = ((S', r) : LwS) ∧ Jp b o so po (n + 900 + 2 * (4 - (k + 1))) S' A, ?_, fun t => ¬ zMx A i (k + 1) ≤ qq ∧ ∃ S', t = ((S', r) : LwS) ∧ Jp b o so po (n + 900 + 2 * (4 - (k + 1))) S' A, ?_, fun z => ?_, fun z => ?_⟩⟩
      · rintro _ _ ⟨rfl, S', rfl, J'⟩
        exact hK _ ⟨S', rfl, J'⟩
      · rintro _ ⟨h1, h2⟩
        exact ⟨(if_neg h1).symm, h2⟩
      · have hn : ¬ zMx A i k ≤ qq := fun c => by
          rw [if_pos c] at z
          exact one_ne z
        exact ⟨fun c => hn (zMx_s.mp c).1, S2, rfl, Jp_dn J2 (by omega)⟩
      · have hy : zMx A i k ≤ qq := Classical.byContradiction fun c => z (if_neg c)
        refine rd_left (n := n + 900 + 2 * (4 - (k + 1)) + 1) hb (Jp_dn J2 (by omega)) hk hi (fun S3 J3 => ⟨hu0, fun z2 => ?_, fun z2 => ?_⟩)
        · rw [e96, es] at z2
          exact ⟨fun c => nI_nlt (zMx_s.mp c).2 (by omega) z2, S3, rfl, Jp_dn J3 (by omega)⟩
        · rw [e96, es] at z2
          refine ⟨(if_pos (zMx_s.mpr ⟨hy, Nat.le_of_not_lt fun c => z2 (nI_lt c (by omega))⟩)).symm, S3, rfl, Jp_dn J3 (by omega)⟩
    · rintro K s ⟨S2, rfl, J2⟩
      unfold w_L_tells_L191
      dsimp only
      refine ⟨fun _ => ?_, fun z => absurd (nI_le (Nat.le_refl _) (by decide)) z⟩
      by_cases c4 : zMx A i 4 ≤ qq
      · rw [if_pos c4]
        refine mu_setMetre (n := n + 700) hb (Jp_dn J2 (by omega)) hi (by omega) (by omega) hu (by rw [← hqq]; exact c4) (fun S3 J3 x27 hx27 => ?_)
        obtain ⟨A1, hA1⟩ : ∃ A1, A1 = msA (msA (msI A 45 0) 1 (nI i) (nI c)) 2 (nI i) (nI u) := ⟨_, rfl⟩
        have hW1 : gdW A1 := by rw [hA1]; exact gdW_k hW rfl ((mA_ne (by decide)).trans (mA_ne (by decide))) ((mA_ne (by decide)).trans (mA_ne (by decide))) ((mA_ne (by decide)).trans (mA_ne (by decide))) ((mA_ne (by decide)).trans (mA_ne (by decide)))
        have I1 : ∀ m S', Jp b o so po m S' A1 → lwI b o so po r ga ta m S' A1 := fun m S' J => lwI_k I J (by rw [hA1]; rfl) (by rw [hA1]; rfl) (by rw [hA1]; rfl) (by rw [hA1]; rfl) (by rw [hA1]; exact (mA_ne (by decide)).trans (mA_ne (by decide))) hW1
        have hi1 : i < zN A1 := by rw [hA1]; exact hi
        have hz1 : zL A1 i = qq := by
          unfold zL zB zU
          have k1 : A1.2 1 i = nI c := by
            rw [hA1, mA_ne (by decide)]
            exact (mA_at (by omega)).trans (if_pos rfl)
          have k2 : A1.2 2 i = nI u := by
            rw [hA1]
            exact (mA_at (by omega)).trans (if_pos rfl)
          rw [k1, k2, aN_nI (by omega), aN_nI (by omega), hqq]
        rw [← hA1] at J3
        have hg1 := (I1 _ _ J3).2.2.1
        refine ⟨_, JJ, fun _ => False, fun _ z => z.elim, fun _ => ?_, fun z => absurd (hx27.trans (if_neg one_ne)).symm z⟩
        refine rd_length (n := n + 699) hb J3 hi1 (fun S4 J4 => ⟨fun _ => hu0, fun x33 hx33 => ⟨fun _ => ?_, fun z => absurd (by rw [hx33, if_neg one_ne, e96, hz1]) z⟩⟩)
        refine no_metre_bad (n := n + 698) hb J4 hi1 (by decide) (fun S5 J5 => ⟨fun _ => ?_, fun z => absurd rfl z⟩)
        refine no_metre_bad (n := n + 697) hb J5 hi1 (by decide) (fun S6 J6 => ⟨fun _ => ⟨vp4_0 hg1, ?_⟩, fun z => absurd rfl z⟩)
        dsimp only
        rw [gR_z hg1 (rA_M (Jp_A J6))]
        exact no_metre_out (n := n + 696) hb J6 (isBar_n (rA_M (Jp_A J6))) 0 4 (fun S7 J7 => ⟨fun _ => ⟨rfl, S7, A1, rfl, I1 _ _ (Jp_dn J7 (by omega))⟩, fun z => absurd rfl z⟩)
      · rw [if_neg c4]
        refine no_metre_short (n := n + 700) hb (Jp_dn J2 (by omega)) hi (by omega) (by omega) hu (by rw [← hqq]; exact c4) (fun S3 J3 x27 hx27 => ?_)
        refine ⟨_, JJ, fun _ => False, fun _ z => z.elim, fun _ => ?_, fun z => absurd (hx27.trans (if_pos rfl)).symm z⟩
        refine rd_length (n := n + 699) hb J3 hi (fun S4 J4 => ⟨fun _ => hu0, fun x33 hx33 => ⟨fun _ => ?_, fun z => absurd (by rw [hx33, if_pos rfl]) z⟩⟩)
        refine no_metre_bad (n := n + 698) hb J4 hi (by decide) (fun S5 J5 => ⟨fun _ => ?_, fun z => absurd rfl z⟩)
        refine no_metre_bad (n := n + 697) hb J5 hi (by decide) (fun S6 J6 => ⟨fun _ => ⟨vp4_0 hg, ?_⟩, fun z => absurd rfl z⟩)
        dsimp only
        rw [hgz]
        exact no_metre_out (n := n + 696) hb J6 (isBar_n (rA_M (Jp_A J6))) 0 4 (fun S7 J7 => ⟨fun _ => ⟨rfl, S7, A, rfl, ⟨Jp_dn J7 (by omega), I.2⟩⟩, fun z => absurd rfl z⟩)
  · -- a repeat that is told
    rw [hgz, pk_sub (a := zN A) (b := i) (by omega)]
    obtain ⟨q1, hq1, eq1⟩ := low_in (y >>> (5 &&& 31)) (d := zN A - i) (by omega) (by omega)
    refine ⟨vp4_0 hg, low_d (by omega) (by omega) _, fun x46 hx46 => ?_⟩
    have e46 : x46 = nI (i + q1) := by rw [hx46, eq1]; exact nI_add i q1
    obtain ⟨g, hgE⟩ : ∃ g, g = i + q1 := ⟨_, rfl⟩
    rw [← hgE] at e46
    have hgN : g < zN A := by omega
    have hig : i ≤ g := by omega
    have e1 : nI g - nI i = nI (g - i) := pk_sub hig
    rw [e46, e1, nI_1]
    obtain ⟨c, hc, ec⟩ := low_in (y >>> (9 &&& 31)) (d := g - i + 1) (by omega) (by omega)
    refine ⟨low_d (by omega) (by omega) _, fun x48 hx48 => ?_⟩
    rw [show x48 = nI c from hx48.trans ec]
    have hcg : c ≤ g - i := by omega
    have h48 := nP_48 hA
    refine rd_places (n := n + 999) hb J (fun S1 J1 => ?_)
    have tail : ∀ (x : Int32) (t : LwS), (x = (1 : Int32) ∧ ∃ S' A', t = ((S', r) : LwS) ∧ Jp b o so po (n + 600) S' A' ∧ (∀ m S', Jp b o so po m S' A' → lwI b o so po r ga ta m S' A') ∧ zN A' = zN A ∧ ¬ zFree A' i g) → ((∃ J536 : Int32 → LwS → Prop, (∀ x53 : Int32, ∀ t54 : LwS, J536 x53 t54 → ((gb x53) ∧ Q x53 t54)) ∧ ∃ J535 : LwS → Prop, (∀ t56 : LwS, J535 t56 → (J536 0 t56)) ∧ (((x = 0) → J535 t) ∧ (¬ (x = 0) → lcall B t (fun B1 K => w_L_addRepeat B1 o (nI i) (nI g) (nI c) t K) (fun r57 t57 => ((r57 = (-1000003)) → lcall B t57 (fun B1 K => w_L_addRepeat B1 o (nI i) (nI g) (nI (g - i + 1)) t57 K) (fun r58 t58 => ((r58 = (-1000002)) → (vp_in 0 (rN t58.2 ga)) ∧ lcall B t58 (fun B1 K => w_L_addRepeat B1 o (nI i) (rG t58.2 ga (Int32.toNatClampNeg 0)) 0 t58 K) (fun r60 t60 => ((r60 = (-1000001)) → lcall B t60 (fun B1 K => w_L_addRepeat B1 o (nI i) ((nI i) - 1) 0 t60 K) (fun r61 t61 => ∀ x62 : Int32, x62 = (if (nI i) = 0 then ((-1000001) : Int32) else (-1000002)) → ((r61 = x62) → J536 1 t61) ∧ (¬ (r61 = x62) → J535 t61))) ∧ (¬ (r60 = (-1000001)) → J535 t60))) ∧ (¬ (r58 = (-1000002)) → J535 t58))) ∧ (¬ (r57 = (-1000003)) → J535 t57)))))) := by
      rintro _ _ ⟨rfl, S3, A3, rfl, J3, I3, hN3, hF3⟩
      have hg3 := (I3 _ _ J3).2.2.1
      refine ⟨_, JJ, fun _ => False, fun _ z => z.elim, fun z => absurd z one_ne, fun _ => ?_⟩
      refine rp_no (n := n + 500) hb J3 (by rw [hN3]; exact hi) (by rw [hN3]; exact hgN) hig hcg hF3 (fun S4 J4 => ⟨fun _ => ?_, fun z => absurd rfl z⟩)
      refine rp_many (n := n + 499) hb J4 (by rw [hN3]; exact hi) (by rw [hN3]; exact hgN) hig (by rw [e1]; exact r_out.mp (Or.inr (nI_ge (by omega) (by omega)))) (fun S5 J5 => ⟨fun _ => ⟨vp4_0 hg3, ?_⟩, fun z => absurd rfl z⟩)
      dsimp only
      have w5 := rA_M (Jp_A J5)
      rw [gR_z hg3 w5]
      refine rp_out (n := n + 498) hb J5 (by rw [hN3]; exact hi) (isBar_n w5) 0 (fun S6 J6 => ⟨fun _ => ?_, fun z => absurd rfl z⟩)
      by_cases c0 : i = 0
      · have em : nI i - 1 = -1 := by rw [c0]; decide
        rw [em]
        refine rp_out (n := n + 497) hb J6 (by rw [hN3]; exact hi) (isBar_m (rA_M (Jp_A J6))) 0 (fun S7 J7 x62 hx62 => ⟨fun _ => ⟨rfl, S7, A3, rfl, I3 _ _ (Jp_dn J7 (by omega))⟩, fun z => absurd ?_ z⟩)
        rw [hx62, if_pos (by rw [c0]; rfl)]
      · have em : nI i - 1 = nI (i - 1) := pk_sub (a := i) (b := 1) (by omega)
        rw [em]
        refine rp_lt (n := n + 497) hb J6 (by rw [hN3]; exact hi) (by rw [hN3]; omega) (by omega) 0 (fun S7 J7 x62 hx62 => ⟨fun _ => ⟨rfl, S7, A3, rfl, I3 _ _ (Jp_dn J7 (by omega))⟩, fun z => absurd ?_ z⟩)
        rw [hx62, if_neg (nI_ne0 (by omega) (by omega))]
    by_cases hF : zFree A i g
    · refine rp_ok (n := n + 800) hb (Jp_dn J1 (by omega)) hi hgN hig hcg hF (fun S2 J2 => ?_)
      obtain ⟨A1, hA1⟩ : ∃ A1, A1 = msA (msA (msI A 45 0) 4 (nI i) (nI g)) 5 (nI i) (nI c) := ⟨_, rfl⟩
      have hW1 : gdW A1 := by rw [hA1]; exact gdW_k hW rfl ((mA_ne (by decide)).trans (mA_ne (by decide))) ((mA_ne (by decide)).trans (mA_ne (by decide))) ((mA_ne (by decide)).trans (mA_ne (by decide))) ((mA_ne (by decide)).trans (mA_ne (by decide)))
      have I1 : ∀ m S', Jp b o so po m S' A1 → lwI b o so po r ga ta m S' A1 := fun m S' J => lwI_k I J (by rw [hA1]; rfl) (by rw [hA1]; rfl) (by rw [hA1]; rfl) (by rw [hA1]; rfl) (by rw [hA1]; exact (mA_ne (by decide)).trans (mA_ne (by decide))) hW1
      have hN1 : zN A1 = zN A := by rw [hA1]; rfl
      rw [← hA1] at J2
      have hM1 := rA_M (Jp_A J2)
      have hMt1 := (rA_T (Jp_A J2)).2.1
      have hg4 : ∀ k, A1.2 4 k = if k = i then nI g else A.2 4 k := fun k => by
        rw [hA1, mA_ne (by decide)]
        exact mA_at (by omega)
      have hg5 : ∀ k, A1.2 5 k = if k = i then nI c else A.2 5 k := fun k => by
        rw [hA1]
        exact (mA_at (by omega)).trans (by rw [mA_ne (by decide)]; rfl)
      have e4 : A1.2 4 i = nI g := (hg4 i).trans (if_pos rfl)
      have e5b : A1.2 5 i = nI c := (hg5 i).trans (if_pos rfl)
      obtain ⟨f1, f2⟩ := zFree_no hMt hF hi hig
      have hpl := zPl_upd hMt hMt1 hM hM1 hN1 hi hgN hig hcg f1 (fun k hk => (hg4 k).trans (if_neg hk)) (fun k hk => (hg5 k).trans (if_neg hk)) e4 e5b f2 (zN A) (Nat.le_refl _)
      rw [if_pos hgN] at hpl
      have hnp : nP A1 = nP A + (g + 1 - c - i) := by
        unfold nP lP
        rw [hN1]
        exact hpl
      have hF1 : ¬ zFree A1 i g := fun z => by
        have ho : zO A1 i = g := by
          unfold zO
          rw [e4, aN_nI (by omega)]
        rcases z i (by rw [hN1]; exact hi) (fun z9 => by
          rw [e4] at z9
          exact nI_m1 (a := g) (by omega) z9.symm) with z | z <;> omega
      refine ⟨_, tail, fun z => absurd z (nI_m3 (by have := zCn_le (A := A) (zN A); omega)), fun _ => ⟨fun _ => False, fun _ z => z.elim, fun z => absurd z (nI_nle (by omega) (by have := zCn_le (A := A) (zN A); omega)), fun _ => ?_⟩⟩
      refine rd_places (n := n + 799) hb J2 (fun S3 J3 => ⟨fun _ => ⟨rfl, S3, A1, rfl, Jp_dn J3 (by omega), I1, hN1, hF1⟩, fun z => absurd ?_ z⟩)
      rw [hnp, nI_add, pk_sub (by omega), nI_1, pk_sub (by omega)]
      congr 1
      omega
    · refine rp_no (n := n + 800) hb (Jp_dn J1 (by omega)) hi hgN hig hcg hF (fun S2 J2 => ?_)
      refine ⟨_, tail, fun _ => ?_, fun z => absurd rfl z⟩
      exact rd_places (n := n + 799) hb J2 (fun S3 J3 => ⟨fun _ => ⟨rfl, S3, A, rfl, Jp_dn J3 (by omega), fun m S' J => ⟨J, I.2⟩, rfl, hF⟩, fun z => absurd rfl z⟩)
  · -- a repeat that is dropped
    have h48 := nP_48 hA
    refine rd_places (n := n + 999) hb J (fun S1 J1 => ?_)
    have tail : ∀ (t : LwS), (∃ S' A', t = ((S', r) : LwS) ∧ Jp b o so po (n + 600) S' A' ∧ (∀ m S', Jp b o so po m S' A' → lwI b o so po r ga ta m S' A') ∧ zN A' = zN A ∧ A'.2 4 i = -1) → lcall B t (fun B1 K => w_L_dropRepeat B1 o (nI i) t K) (fun r73 t73 => ((r73 = (-1000003)) → (vp_in 0 (rN t73.2 ga)) ∧ lcall B t73 (fun B1 K => w_L_dropRepeat B1 o (rG t73.2 ga (Int32.toNatClampNeg 0)) t73 K) (fun r75 t75 => ((r75 = (-1000001)) → ((1 : Int32) = 1 ∧ ∃ S' A', t75 = ((S', r) : LwS) ∧ lwI b o so po r ga ta n S' A')) ∧ (¬ (r75 = (-1000001)) → False))) ∧ (¬ (r73 = (-1000003)) → False)) := by
      rintro _ ⟨S3, A3, rfl, J3, I3, hN3, h43⟩
      have hg3 := (I3 _ _ J3).2.2.1
      refine dr_no (n := n + 500) hb J3 (by rw [hN3]; exact hi) h43 (fun S4 J4 => ⟨fun _ => ⟨vp4_0 hg3, ?_⟩, fun z => absurd rfl z⟩)
      dsimp only
      have w4 := rA_M (Jp_A J4)
      rw [gR_z hg3 w4]
      exact dr_out (n := n + 400) hb J4 (isBar_n w4) (fun S5 J5 => ⟨fun _ => ⟨rfl, S5, A3, rfl, I3 _ _ (Jp_dn J5 (by omega))⟩, fun z => absurd rfl z⟩)
    by_cases hy : zY A i
    · refine dr_ok (n := n + 800) hb (Jp_dn J1 (by omega)) hi hy (fun S2 J2 => ?_)
      obtain ⟨A1, hA1⟩ : ∃ A1, A1 = msA (msI A 45 0) 4 (nI i) (-1) := ⟨_, rfl⟩
      have hW1 : gdW A1 := by rw [hA1]; exact gdW_k hW rfl (mA_ne (by decide)) (mA_ne (by decide)) (mA_ne (by decide)) (mA_ne (by decide))
      have I1 : ∀ m S', Jp b o so po m S' A1 → lwI b o so po r ga ta m S' A1 := fun m S' J => lwI_k I J (by rw [hA1]; rfl) (by rw [hA1]; rfl) (by rw [hA1]; rfl) (by rw [hA1]; rfl) (by rw [hA1]; exact mA_ne (by decide)) hW1
      have hN1 : zN A1 = zN A := by rw [hA1]; rfl
      rw [← hA1] at J2
      have hM1 := rA_M (Jp_A J2)
      have hMt1 := (rA_T (Jp_A J2)).2.1
      have hg4 : ∀ k, A1.2 4 k = if k = i then -1 else A.2 4 k := fun k => by
        rw [hA1]
        exact mA_at (by omega)
      have hg5 : ∀ k, A1.2 5 k = A.2 5 k := fun k => by
        rw [hA1, mA_ne (by decide)]
        rfl
      have e4 : A1.2 4 i = -1 := (hg4 i).trans (if_pos rfl)
      obtain ⟨a1, a2, a3, a4, a5, -⟩ := hMt i hi hy
      have hpl := zPl_upd hMt1 hMt hM1 hM hN1.symm (by rw [hN1]; exact hi) (by rw [hN1]; exact a4) a3 a5 e4 (fun k hk => ((hg4 k).trans (if_neg hk)).symm) (fun k hk => (hg5 k).symm) a1 a2 (fun k hk yk => by
        have hki : k ≠ i := fun z => yk (by rw [z]; exact e4)
        have yk' : zY A k := fun z => yk (((hg4 k).trans (if_neg hki)).trans z)
        have ok : zO A1 k = zO A k := by
          unfold zO
          rw [hg4 k, if_neg hki]
        rw [ok]
        exact zO_ne hMt (by rw [← hN1]; exact hk) hi yk' hy hki) (zN A1) (Nat.le_refl _)
      rw [if_pos (by rw [hN1]; exact a4)] at hpl
      have hnp : nP A = nP A1 + (zO A i + 1 - zG A i - i) := by
        unfold nP lP
        rw [← hN1]
        exact hpl
      refine ⟨_, JJ, fun _ => False, fun _ z => z.elim, _, tail, fun z => absurd z (nI_m3 (by omega)), fun _ => ⟨fun z => absurd z (nI_nlt a3 (by omega)), fun _ => ?_⟩⟩
      refine rd_places (n := n + 799) hb J2 (fun S3 J3 => ⟨fun z => absurd z (nI_ge (by omega) (by omega)), fun _ => ⟨S3, A1, rfl, Jp_dn J3 (by omega), I1, hN1, e4⟩⟩)
    · have e4 : A.2 4 i = -1 := Classical.byContradiction hy
      refine dr_no (n := n + 800) hb (Jp_dn J1 (by omega)) hi e4 (fun S2 J2 => ?_)
      refine ⟨_, JJ, fun _ => False, fun _ z => z.elim, _, tail, fun _ => ?_, fun z => absurd rfl z⟩
      exact rd_places (n := n + 799) hb J2 (fun S3 J3 => ⟨fun _ => ⟨S3, A, rfl, Jp_dn J3 (by omega), fun m S' J => ⟨J, I.2⟩, rfl, e4⟩, fun z => absurd rfl z⟩)
  · -- a transposition
    obtain ⟨v, hv, ev⟩ := low_in (y >>> (5 &&& 31)) (d := 4) (by decide) (by decide)
    obtain ⟨q2, hq2, eq2⟩ := low_in (y >>> (7 &&& 31)) (d := 25) (by decide) (by decide)
    refine ⟨low_d (d := 4) (by decide) (by decide) _, fun x79 hx79 => ⟨low_d (d := 25) (by decide) (by decide) _, fun x81 hx81 => ?_⟩⟩
    rw [show x79 = nI v from hx79.trans ev]
    have hby : ¬ v_in x81 (-12) 12 = 0 := by
      rw [hx81, show v_L_low (y >>> (7 &&& 31)) 25 = nI q2 from eq2]
      exact by_of hq2
    refine ⟨tR_vp ht hv, fun x83 hx83 => ⟨tR_vp ht hv, fun t85 ht85 => ?_⟩⟩
    have e83 : A.2 13 v = x83 := ((tR_at ht hv).symm.trans hx83.symm)
    obtain ⟨f, f1, f2⟩ := ht
    have e85 : t85 = ((S, rPut r ta (4, va_up f v x81)) : LwS) := by
      rw [ht85]
      show ((S, rPut r ta (rN r ta, va_up (rG r ta) (Int32.toNatClampNeg (nI v)) x81)) : LwS) = _
      rw [rN_some f1, rG_some f1, nI_clamp (by omega)]
    obtain ⟨r2, hr2⟩ : ∃ r2, r2 = rPut r ta (4, va_up f v x81) := ⟨_, rfl⟩
    rw [← hr2] at e85
    rw [e85]
    refine mu_transpose (n := n + 800) (r := r2) hb (Jp_dn J (by omega)) hv hby (fun k j hk hj => wr_ok hby (hW.1 v k j hv hk hj).2) (fun S1 J1 => ?_)
    obtain ⟨A1, hA1⟩ : ∃ A1, A1 = msA (msI A 45 0) 13 (nI v) x81 := ⟨_, rfl⟩
    have h13 : ∀ k, A1.2 13 k = if k = v then x81 else A.2 13 k := fun k => by
      rw [hA1]
      exact mA_at (by omega)
    have hW1 : gdW A1 := by
      refine ⟨fun v2 i2 j2 hv2 hi2 hj2 => ?_, fun v2 hv2 => ?_⟩
      · rw [hA1] at hi2 hj2 ⊢
        exact evG_c (hW.1 v2 i2 j2 hv2 hi2 hj2) rfl rfl
      · rw [h13]
        by_cases c : v2 = v
        · rw [if_pos c]
          exact hby
        · rw [if_neg c]
          exact hW.2 v2 hv2
    rw [← hA1] at J1
    have hg1 : gRow r2 ga A1 := by
      obtain ⟨f3, f4, f5⟩ := hg
      refine ⟨f3, ?_, ?_⟩
      · rw [hr2, rPut_ne hne]
        exact f4
      · rw [hA1]
        exact f5
    have ht1 : tRow r2 ta A1 := by
      refine ⟨va_up f v x81, by rw [hr2, rPut_at], fun v2 hv2 => ?_⟩
      rw [h13, va_up_at]
      by_cases c : v2 = v
      · rw [if_pos c, if_pos c]
      · rw [if_neg c, if_neg c]
        exact f2 v2 hv2
    refine ⟨fun x t => x = 1 ∧ ∃ S', t = ((S', r2) : LwS) ∧ Jp b o so po n S' A1, ?_, fun _ => False, fun _ z => z.elim, fun _ => ?_, fun z => absurd e83 z⟩
    · rintro _ _ ⟨rfl, S', rfl, J'⟩
      exact ⟨Or.inr rfl, h S' A1 r2 ⟨J', hW1, hg1, ht1⟩⟩
    refine no_trans_bad (n := n + 799) hb J1 hv (by decide) (fun S2 J2 => ⟨fun _ => ?_, fun z => absurd rfl z⟩)
    exact no_trans_voice (n := n + 798) hb J2 isV_4 0 (fun S3 J3 => ⟨fun _ => ⟨rfl, S3, rfl, Jp_dn J3 (by omega)⟩, fun z => absurd rfl z⟩)
  · -- paper
    obtain ⟨q1, hq1, eq1⟩ := low_in y (d := 361) (by decide) (by decide)
    obtain ⟨q2, hq2, eq2⟩ := low_in (y >>> (9 &&& 31)) (d := 6) (by decide) (by decide)
    obtain ⟨q3, hq3, eq3⟩ := low_in (y >>> (12 &&& 31)) (d := 4000) (by decide) (by decide)
    obtain ⟨f, f1, f2, f3, f4, f5⟩ := id hg
    have b1 : (40 : Int32) + v_L_low y 361 = nI (40 + q1) := by rw [show v_L_low y 361 = nI q1 from eq1]; exact nI_add 40 q1
    have b2 : (1 : Int32) + v_L_low (y >>> (9 &&& 31)) 6 = nI (1 + q2) := by rw [show v_L_low (y >>> (9 &&& 31)) 6 = nI q2 from eq2]; exact nI_add 1 q2
    have b3 : v_L_low (y >>> (12 &&& 31)) 4000 = nI q3 := eq3
    have vp : ∀ k : Nat, k < 4 → vp_in (nI k) 4 := fun k hk => vp_nI (n := 4) hk (by decide)
    refine ⟨low_d (d := 361) (by decide) (by decide) _, vp4_1 hg, fun t95 ht95 => ⟨low_d (d := 6) (by decide) (by decide) _, ?_⟩⟩
    have e95 : t95 = ((S, rPut r ga (4, va_up f 1 (nI (40 + q1)))) : LwS) := by
      rw [ht95, b1]
      show ((S, rPut r ga (rN r ga, va_up (rG r ga) (Int32.toNatClampNeg 1) (nI (40 + q1)))) : LwS) = _
      rw [rN_some f1, rG_some f1]
      rfl
    rw [e95]
    refine ⟨by show vp_in 2 (rN (rPut r ga _) ga); rw [rN_put]; exact vp 2 (by decide), fun t98 ht98 => ⟨low_d (d := 4000) (by decide) (by decide) _, ?_⟩⟩
    have e98 : t98 = ((S, rPut r ga (4, va_up (va_up f 1 (nI (40 + q1))) 2 (nI (1 + q2)))) : LwS) := by
      rw [ht98, b2, rSt_put]
      rfl
    rw [e98]
    refine ⟨by show vp_in 3 (rN (rPut r ga _) ga); rw [rN_put]; exact vp 3 (by decide), fun t101 ht101 => ?_⟩
    obtain ⟨r2, hr2⟩ : ∃ r2, r2 = rPut r ga (4, va_up (va_up (va_up f 1 (nI (40 + q1))) 2 (nI (1 + q2))) 3 (nI q3)) := ⟨_, rfl⟩
    have e101 : t101 = ((S, r2) : LwS) := by
      rw [ht101, b3, rSt_put, hr2]
      rfl
    rw [e101]
    dsimp only
    have n2 : rN r2 ga = 4 := by rw [hr2, rN_put]
    have g2 : rG r2 ga = va_up (va_up (va_up f 1 (nI (40 + q1))) 2 (nI (1 + q2))) 3 (nI q3) := by rw [hr2, rG_put]
    have g21 : rG r2 ga (Int32.toNatClampNeg 1) = nI (40 + q1) := by rw [g2]; rfl
    have g22 : rG r2 ga (Int32.toNatClampNeg 2) = nI (1 + q2) := by rw [g2]; rfl
    have g23 : rG r2 ga (Int32.toNatClampNeg 3) = nI q3 := by rw [g2]; rfl
    rw [n2, g21, g22, g23]
    refine ⟨vp 1 (by decide), vp 2 (by decide), vp 3 (by decide), ?_⟩
    refine mu_setPaper (n := n + 800) (r := r2) hb (Jp_dn J (by omega)) (in_rng (x := 40) (y := 400) (by omega) (by omega) (by decide)) (in_rng (x := 1) (y := 6) (by omega) (by omega) (by decide)) (in_rng (x := 0) (y := 20000) (Nat.zero_le _) (by omega) (by decide)) (fun S1 J1 => ?_)
    obtain ⟨A1, hA1⟩ : ∃ A1, A1 = msI (msI (msI (msI A 45 0) 21 (nI (40 + q1))) 22 (nI (1 + q2))) 23 (nI q3) := ⟨_, rfl⟩
    have hW1 : gdW A1 := by rw [hA1]; exact gdW_k hW rfl rfl rfl rfl rfl
    rw [← hA1] at J1
    have hg1 : gRow r2 ga A1 := by
      refine ⟨_, by rw [hr2, rPut_at], ?_, ?_, ?_, ?_⟩
      · rw [hA1]
        exact f2
      · rw [hA1]
        rfl
      · rw [hA1]
        rfl
      · rw [hA1]
        rfl
    have ht1 : tRow r2 ta A1 := by
      obtain ⟨f6, f7, f8⟩ := ht
      refine ⟨f6, ?_, fun v2 hv2 => ?_⟩
      · rw [hr2, rPut_ne (Ne.symm hne)]
        exact f7
      · rw [hA1]
        exact f8 v2 hv2
    refine ⟨fun x t => x = 1 ∧ ∃ S', t = ((S', r2) : LwS) ∧ Jp b o so po n S' A1, ?_, fun _ => False, fun _ z => z.elim, fun _ => ?_, fun z => absurd rfl z⟩
    · rintro _ _ ⟨rfl, S', rfl, J'⟩
      exact ⟨Or.inr rfl, h S' A1 r2 ⟨J', hW1, hg1, ht1⟩⟩
    refine no_paper1 (n := n + 799) hb J1 (by decide) 1 0 (fun S2 J2 => ⟨fun _ => ?_, fun z => absurd rfl z⟩)
    refine no_paper1 (n := n + 798) hb J2 (by decide) 1 0 (fun S3 J3 => ⟨fun _ => ?_, fun z => absurd rfl z⟩)
    refine no_paper2 (n := n + 797) hb J3 (by decide) (by decide) 0 (fun S4 J4 => ⟨fun _ => ?_, fun z => absurd rfl z⟩)
    refine no_paper2 (n := n + 796) hb J4 (by decide) (by decide) 0 (fun S5 J5 => ⟨fun _ => ?_, fun z => absurd rfl z⟩)
    exact no_paper3 (n := n + 795) hb J5 (by decide) (by decide) (by decide) (fun S6 J6 => ⟨fun _ => ⟨rfl, S6, rfl, Jp_dn J6 (by omega)⟩, fun z => absurd rfl z⟩)
  · -- turns
    obtain ⟨v, hv, ev⟩ := low_in (y >>> (5 &&& 31)) (d := 4) (by decide) (by decide)
    refine ⟨low_d (d := 2) (by decide) (by decide) _, fun x118 hx118 => ?_⟩
    rw [show x116 = nI v from hx116.trans ev]
    have hgb : gb x118 := by
      rw [hx118]
      exact gb_if
    refine mu_allowTurn (n := n + 800) hb (Jp_dn J (by omega)) hv hi hgb (fun S1 J1 => ?_)
    obtain ⟨A1, hA1⟩ : ∃ A1, A1 = msA (msI A 45 0) 7 (nI (24 * v + i)) x118 := ⟨_, rfl⟩
    have hW1 : gdW A1 := by rw [hA1]; exact gdW_k hW rfl (mA_ne (by decide)) (mA_ne (by decide)) (mA_ne (by decide)) (mA_ne (by decide))
    have I1 : ∀ m S', Jp b o so po m S' A1 → lwI b o so po r ga ta m S' A1 := fun m S' J => lwI_k I J (by rw [hA1]; rfl) (by rw [hA1]; rfl) (by rw [hA1]; rfl) (by rw [hA1]; rfl) (by rw [hA1]; exact mA_ne (by decide)) hW1
    have hi1 : i < zN A1 := by rw [hA1]; exact hi
    have h71 : A1.2 7 (24 * v + i) = x118 := by rw [hA1]; exact (mA_at (by omega)).trans (if_pos rfl)
    rw [← hA1] at J1
    refine ⟨_, JJ, fun _ => False, fun _ z => z.elim, fun z => ?_, fun _ => ?_⟩
    · rcases (z_r hM hi hv).2.2.1 with e | e <;> rw [e] at z <;> exact absurd z (by decide)
    refine mu_allowTurn (n := n + 600) hb (Jp_dn J1 (by omega)) hv hi1 hgb (fun S2 J2 x125 hx125 => ?_)
    obtain ⟨A2, hA2⟩ : ∃ A2, A2 = msA (msI A1 45 0) 7 (nI (24 * v + i)) x118 := ⟨_, rfl⟩
    have hW2 : gdW A2 := by rw [hA2]; exact gdW_k hW1 rfl (mA_ne (by decide)) (mA_ne (by decide)) (mA_ne (by decide)) (mA_ne (by decide))
    have I2 : ∀ m S', Jp b o so po m S' A2 → lwI b o so po r ga ta m S' A2 := fun m S' J => lwI_k (I1 _ _ J1) J (by rw [hA2]; rfl) (by rw [hA2]; rfl) (by rw [hA2]; rfl) (by rw [hA2]; rfl) (by rw [hA2]; exact mA_ne (by decide)) hW2
    rw [← hA2] at J2
    have hg2 := (I2 _ _ J2).2.2.1
    refine ⟨fun _ => ?_, fun z => absurd ?_ z⟩
    · refine no_turn_voice (n := n + 599) hb J2 isV_4 (nI i) 1 (fun S3 J3 => ⟨fun _ => ⟨vp4_0 hg2, ?_⟩, fun z => absurd rfl z⟩)
      dsimp only
      rw [gR_z hg2 (rA_M (Jp_A J3))]
      exact no_turn_out (n := n + 598) (v := 0) hb J3 (by decide) (isBar_n (rA_M (Jp_A J3))) 1 (fun S4 J4 => ⟨fun _ => ⟨rfl, S4, A2, rfl, I2 _ _ (Jp_dn J4 (by omega))⟩, fun z => absurd rfl z⟩)
    · rw [h71, hx125]
      rcases hgb with e | e <;> rw [e] <;> decide
  · -- phrases
    obtain ⟨v, hv, ev⟩ := low_in (y >>> (5 &&& 31)) (d := 4) (by decide) (by decide)
    rw [show x116 = nI v from hx116.trans ev]
    have he16 := (z_r hM hi hv).1
    have hP := rA_P hA
    have hnpS : aN (A.1 14) = npS S so := by rw [hP.2.1, aN_nI (by have := hP.1; omega)]
    obtain ⟨np, hnp⟩ : ∃ np, np = aN (A.1 14) := ⟨_, rfl⟩
    have hnp20 : np ≤ 20 := by rw [hnp, hnpS]; exact hP.1
    have h20 : np < 20 → A.2 20 np = 0 := fun z => hP.2.2.2.2.2 np (by omega) z
    obtain ⟨pm, pm1, pm2⟩ := zPh_le (A := A) np hnp20
    obtain ⟨m, hm⟩ : ∃ m, m = zE A v i := ⟨_, rfl⟩
    refine rd_events (n := n + 999) hb J hv hi (fun S1 J1 => ?_)
    refine rd_phrases (n := n + 998) hb J1 (fun S2 J2 => ?_)
    rw [← hm, ← hnp]
    rw [← hm] at he16
    refine ⟨fun z2 => ?_, fun z2 => ?_⟩
    · have hm2 : 2 ≤ m := Nat.le_of_not_lt fun z => nI_ge (a := m) (b := 2) z (by decide) z2
      have em : nI m - 1 = nI (m - 1) := pk_sub (a := m) (b := 1) (by omega)
      rw [em]
      have tail : ∀ (x : Int32) (t : LwS), (x = (1 : Int32) ∧ ∃ S' A', t = ((S', r) : LwS) ∧ Jp b o so po (n + 400) S' A' ∧ (∀ m S', Jp b o so po m S' A' → lwI b o so po r ga ta m S' A') ∧ zE A' v i = m ∧ i < zN A') → ((∃ J1183 : Int32 → LwS → Prop, (∀ x134 : Int32, ∀ t135 : LwS, J1183 x134 t135 → ((gb x134) ∧ Q x134 t135)) ∧ ∃ J1182 : LwS → Prop, (∀ t137 : LwS, J1182 t137 → (J1183 0 t137)) ∧ (((x = 0) → J1182 t) ∧ (¬ (x = 0) → lcall B t (fun B1 K => w_L_addPhrase B1 o (nI v) (nI i) (nI (m - 1)) (nI i) 0 t K) (fun r138 t138 => ((r138 = (-1000003)) → lcall B t138 (fun B1 K => w_L_addPhrase B1 o (nI v) (nI i) 0 (nI i) (nI m) t138 K) (fun r139 t139 => ((r139 = (-1000001)) → lcall B t139 (fun B1 K => w_L_dropPhrase B1 o 20 t139 K) (fun r140 t140 => ((r140 = (-1000001)) → J1183 1 t140) ∧ (¬ (r140 = (-1000001)) → J1182 t140))) ∧ (¬ (r139 = (-1000001)) → J1182 t139))) ∧ (¬ (r138 = (-1000003)) → J1182 t138)))))) := by
        rintro _ _ ⟨rfl, S3, A3, rfl, J3, I3, hE3, hi3⟩
        refine ⟨_, JJ, fun _ => False, fun _ z => z.elim, fun z => absurd z one_ne, fun _ => ?_⟩
        refine ph_ord (n := n + 300) (j := m - 1) (k := 0) hb J3 hv hi3 (by omega) (by omega) (Nat.zero_le _) (fun S4 J4 => ⟨fun _ => ?_, fun z => absurd rfl z⟩)
        refine ph_out (n := n + 299) hb J4 hv hi3 (by omega) hE3 (fun S5 J5 => ⟨fun _ => ?_, fun z => absurd rfl z⟩)
        refine no_drop_out (n := n + 298) hb J5 (Or.inr (nI_nlt (a := 20) (rA_P (Jp_A J5)).1 (by decide))) (fun S6 J6 => ⟨fun _ => ⟨rfl, S6, A3, rfl, I3 _ _ (Jp_dn J6 (by omega))⟩, fun z => absurd rfl z⟩)
      by_cases hlt : np < 20
      · have h20z := h20 hlt
        rw [hnp] at hlt
        refine ph_ok (n := n + 800) hb (Jp_dn J2 (by omega)) hv hi hm.symm hm2 hlt (fun S3 J3 => ?_)
        rw [← hnp] at hlt J3 ⊢
        obtain ⟨A1, hA1⟩ : ∃ A1, A1 = phA A np (nI v) (nI i) (nI 0) (nI i) (nI (m - 1)) := ⟨_, rfl⟩
        have h2k : ∀ f, f ≠ 15 → f ≠ 16 → f ≠ 17 → f ≠ 18 → f ≠ 19 → A1.2 f = A.2 f := fun f g1 g2 g3 g4 g5 => by
          rw [hA1]
          unfold phA
          show (msA (msA (msA (msA (msA (msI A 45 0) 15 (nI np) (nI v)) 16 (nI np) (nI i)) 17 (nI np) (nI 0)) 18 (nI np) (nI i)) 19 (nI np) (nI (m - 1))).2 f = _
          rw [mA_ne g5, mA_ne g4, mA_ne g3, mA_ne g2, mA_ne g1]
          rfl
        have h1k : ∀ k, k ≠ 45 → k ≠ 14 → A1.1 k = A.1 k := fun k g1 g2 => by
          rw [hA1]
          unfold phA
          rw [mI_ne g2]
          exact n45 rfl g1
        have h14 : A1.1 14 = nI (np + 1) := by
          rw [hA1]
          exact mI_at
        have hW1 : gdW A1 := gdW_k hW (h1k 0 (by decide) (by decide)) (h2k 6 (by decide) (by decide) (by decide) (by decide) (by decide)) (h2k 8 (by decide) (by decide) (by decide) (by decide) (by decide)) (h2k 11 (by decide) (by decide) (by decide) (by decide) (by decide)) (h2k 13 (by decide) (by decide) (by decide) (by decide) (by decide))
        have I1 : ∀ m S', Jp b o so po m S' A1 → lwI b o so po r ga ta m S' A1 := fun m S' J => lwI_k I J (h1k 0 (by decide) (by decide)) (h1k 21 (by decide) (by decide)) (h1k 22 (by decide) (by decide)) (h1k 23 (by decide) (by decide)) (h2k 13 (by decide) (by decide) (by decide) (by decide) (by decide)) hW1
        have hi1 : i < zN A1 := by rw [zN_c (h1k 0 (by decide) (by decide))]; exact hi
        have hE1 : zE A1 v i = m := by rw [zE_c (h2k 6 (by decide) (by decide) (by decide) (by decide) (by decide))]; exact hm.symm
        have h201 : A1.2 20 = A.2 20 := h2k 20 (by decide) (by decide) (by decide) (by decide) (by decide)
        have a14 : aN (A1.1 14) = np + 1 := by rw [h14, aN_nI (by omega)]
        have hph : zPh A1 (aN (A1.1 14)) = zPh A np + 1 := by
          rw [a14]
          show zPh A1 np + (if A1.2 20 np = 0 then 1 else 0) = _
          rw [h201, if_pos h20z, zPh_c (A := A) np (fun k _ => by rw [h201])]
        rw [← hA1] at J3
        refine ⟨_, tail, fun z => absurd z (nI_m3 (by omega)), fun _ => ?_⟩
        refine rd_phrases (n := n + 799) hb J3 (fun S4 J4 => ?_)
        refine ⟨fun _ => False, fun _ z => z.elim, fun _ => ⟨low_d (d := 2) (by decide) (by decide) _, ?_⟩, fun z => absurd hph z⟩
        refine ⟨fun t => ∃ S' A', t = ((S', r) : LwS) ∧ Jp b o so po (n + 400) S' A' ∧ (∀ m S', Jp b o so po m S' A' → lwI b o so po r ga ta m S' A') ∧ zE A' v i = m ∧ i < zN A', fun t g => ⟨rfl, g⟩, fun _ => ⟨S4, A1, rfl, Jp_dn J4 (by omega), I1, hE1, hi1⟩, fun _ => ?_⟩
        refine mu_dropPhrase (n := n + 690) hb (Jp_dn J4 (by omega)) (by rw [a14]; exact Nat.lt_succ_self _) (fun S5 J5 => ⟨fun _ => ?_, fun z => absurd (if_pos (by rw [h201]; exact h20z)) z⟩)
        obtain ⟨A2, hA2⟩ : ∃ A2, A2 = msA (msI A1 45 0) 20 (nI np) 1 := ⟨_, rfl⟩
        have h14b : A2.1 14 = nI (np + 1) := by rw [hA2]; exact (n45 (t := A1) (A' := msA (msI A1 45 0) 20 (nI np) 1) (x := 0) rfl (by decide)).trans h14
        have h202 : A2.2 20 np = 1 := by rw [hA2]; exact (mA_at (by omega)).trans (if_pos rfl)
        have a14b : aN (A2.1 14) = np + 1 := by rw [h14b, aN_nI (by omega)]
        have hW2 : gdW A2 := by rw [hA2]; exact gdW_k hW1 rfl (mA_ne (by decide)) (mA_ne (by decide)) (mA_ne (by decide)) (mA_ne (by decide))
        have I2 : ∀ m S', Jp b o so po m S' A2 → lwI b o so po r ga ta m S' A2 := fun m S' J => lwI_k (I1 _ _ J3) J (by rw [hA2]; rfl) (by rw [hA2]; rfl) (by rw [hA2]; rfl) (by rw [hA2]; rfl) (by rw [hA2]; exact mA_ne (by decide)) hW2
        rw [← hA2] at J5
        refine mu_dropPhrase (n := n + 580) hb (Jp_dn J5 (by omega)) (by rw [a14b]; exact Nat.lt_succ_self _) (fun S6 J6 => ⟨fun _ => ?_, fun z => absurd (if_neg (by rw [h202]; exact one_ne)) z⟩)
        obtain ⟨A3, hA3⟩ : ∃ A3, A3 = msA (msI A2 45 0) 20 (nI np) 1 := ⟨_, rfl⟩
        have h14c : A3.1 14 = nI (np + 1) := by rw [hA3]; exact (n45 (t := A2) (A' := msA (msI A2 45 0) 20 (nI np) 1) (x := 0) rfl (by decide)).trans h14b
        have h203 : A3.2 20 np = 1 := by rw [hA3]; exact (mA_at (by omega)).trans (if_pos rfl)
        have a14c : aN (A3.1 14) = np + 1 := by rw [h14c, aN_nI (by omega)]
        have hW3 : gdW A3 := by rw [hA3]; exact gdW_k hW2 rfl (mA_ne (by decide)) (mA_ne (by decide)) (mA_ne (by decide)) (mA_ne (by decide))
        have I3 : ∀ m S', Jp b o so po m S' A3 → lwI b o so po r ga ta m S' A3 := fun m S' J => lwI_k (I2 _ _ J5) J (by rw [hA3]; rfl) (by rw [hA3]; rfl) (by rw [hA3]; rfl) (by rw [hA3]; rfl) (by rw [hA3]; exact mA_ne (by decide)) hW3
        have hE3 : zE A3 v i = m := by rw [hA3, hA2]; exact hE1
        have hi3 : i < zN A3 := by rw [hA3, hA2]; exact hi1
        rw [← hA3] at J6
        refine rd_phrases (n := n + 579) hb J6 (fun S7 J7 => ⟨fun _ => ⟨S7, A3, rfl, Jp_dn J7 (by omega), I3, hE3, hi3⟩, fun z => absurd ?_ z⟩)
        rw [a14c]
        show zPh A3 np + (if A3.2 20 np = 0 then 1 else 0) = _
        rw [if_neg (by rw [h203]; exact one_ne), zPh_c (A := A) np (fun k hk => ?_), pm2]
        · exact nI_add pm 0
        · have q1 : A3.2 20 k = if k = np then 1 else A2.2 20 k := by rw [hA3]; exact mA_at (by omega)
          have q2 : A2.2 20 k = if k = np then 1 else A1.2 20 k := by rw [hA2]; exact mA_at (by omega)
          rw [q1, if_neg (by omega), q2, if_neg (by omega), h201]
      · rw [hnp] at hlt
        refine ph_full (n := n + 800) hb (Jp_dn J2 (by omega)) hv hi hm.symm hm2 hlt (fun S3 J3 => ?_)
        refine ⟨_, tail, fun _ => ?_, fun z => absurd rfl z⟩
        exact rd_phrases (n := n + 799) hb J3 (fun S4 J4 => ⟨fun _ => ⟨rfl, S4, A, rfl, Jp_dn J4 (by omega), fun m S' J => ⟨J, I.2⟩, hm.symm, hi⟩, fun z => absurd (by rw [hnp]) z⟩)
    · have hm2 : m < 2 := Nat.lt_of_not_le fun z => z2 (nI_le (a := 2) (b := m) z (by omega))
      by_cases c0 : m = 0
      · refine ph_out1 (n := n + 997) hb J2 hv hi (by omega) (nI i) 0 (fun S3 J3 x150 hx150 => ?_)
        refine ⟨_, JJ, fun _ => False, fun _ z => z.elim, fun _ => ?_, fun z => absurd (by rw [hx150, if_pos (by rw [c0]; rfl)]) z⟩
        exact ph_voice (n := n + 996) hb J3 isV_4 (nI i) 0 (nI i) 0 (fun S4 J4 => ⟨fun _ => ⟨rfl, S4, A, rfl, ⟨Jp_dn J4 (by omega), I.2⟩⟩, fun z => absurd rfl z⟩)
      · refine ph_ord (n := n + 800) (j := 0) (k := 0) hb (Jp_dn J2 (by omega)) hv hi (by omega) (by omega) (Nat.le_refl _) (fun S3 J3 x150 hx150 => ?_)
        refine ⟨_, JJ, fun _ => False, fun _ z => z.elim, fun _ => ?_, fun z => absurd (by rw [hx150, if_neg (nI_ne0 (by omega) (by omega))]) z⟩
        exact ph_voice (n := n + 799) hb J3 isV_4 (nI i) 0 (nI i) 0 (fun S4 J4 => ⟨fun _ => ⟨rfl, S4, A, rfl, ⟨Jp_dn J4 (by omega), I.2⟩⟩, fun z => absurd rfl z⟩)
end DT
