/-! P57: THE LAW'S METHODS (7): edits -/
/-- marks, ties and pitches aside, all is as it was -/
def edE (A A' : MS) : Prop := (∀ k, k ≠ 45 → A'.1 k = A.1 k) ∧ ∀ f, f ≠ 8 → f ≠ 11 → f ≠ 12 → A'.2 f = A.2 f
theorem edE_n {A A' : MS} (h : edE A A') : zN A' = zN A := zN_c (h.1 0 (by decide))
theorem edE_e {A A' : MS} (h : edE A A') {v i : Nat} : zE A' v i = zE A v i := zE_c (h.2 6 (by decide) (by decide) (by decide))
theorem edE_A {A A' : MS} {f i : Nat} {x : Int32} (h : edE A A') (hf : f = 8 ∨ f = 11 ∨ f = 12) : edE A (msA (msI A' 45 0) f (nI i) x) := by
  refine ⟨fun k hk => (n45 rfl hk).trans (h.1 k hk), fun g g1 g2 g3 => ?_⟩
  rw [mA_ne (by omega)]
  exact h.2 g g1 g2 g3
section DE
variable {b B : Nat × Nat} {o so po n ga ta v i : Nat} {S : CS} {A A' : MS} {r : LR} {Q : Int32 → LwS → Prop}
theorem edE_I (I : lwI b o so po r ga ta n S A) (h : edE A A') {m : Nat} {S' : CS} (J : Jp b o so po m S' A') (hW : gdW A') : lwI b o so po r ga ta m S' A' :=
  lwI_k I J (h.1 0 (by decide)) (h.1 21 (by decide)) (h.1 22 (by decide)) (h.1 23 (by decide)) (h.2 13 (by decide) (by decide) (by decide)) hW
theorem zWr_no {j : Nat} (h : A.2 8 (zp v i j) = 0) : zWr A v i j = -1 := by
  unfold zWr
  rw [h]
  rfl
theorem zWr_in {j m : Nat} (h : A.2 8 (zp v i j) = nI m) (h1 : 40 ≤ m) (h2 : m ≤ 42) (ha : ¬ v_in (A.2 13 v) (-12) 12 = 0) : zWr A v i j = nI m + A.2 13 v ∧ ¬ nI m + A.2 13 v = -1 := by
  have e : zWr A v i j = nI m + A.2 13 v := by
    unfold zWr
    rw [h, aN_nI (by omega), if_neg (by omega)]
  refine ⟨e, fun z => ?_⟩
  have k1 : ¬ (A.2 13 v < -12 ∨ ¬ A.2 13 v ≤ 12) := fun z => ha (r_out.mp z)
  have k2 : ¬ (A.2 13 v).toInt < -12 := fun z => k1 (Or.inl (Int32.lt_iff_toInt_lt.mpr z))
  have k3 : (A.2 13 v).toInt ≤ 12 := Int32.le_iff_toInt_le.mp (Classical.byContradiction fun z => k1 (Or.inr z))
  have e1 : (nI m + A.2 13 v).toInt = (m : Int) + (A.2 13 v).toInt := by
    rw [Int32.toInt_add, nI_toInt (by omega)]
    exact Int.bmod_eq_of_le (by omega) (by omega)
  rw [z] at e1
  have e2 : (-1 : Int32).toInt = -1 := by decide
  omega
theorem mk_ok {a : Int32} (ha : a = -1 ∨ ∃ m : Nat, m ≤ 5 ∧ a = nI m) : ¬ v_in a (-1) 5 = 0 ∧ ¬ (a < -1 ∨ 6 ≤ a) := by
  rcases ha with rfl | ⟨m, hm, rfl⟩
  · decide
  · refine ⟨fun z => ?_, fun z => ?_⟩
    · rcases r_out.mpr z with z | z
      · exact nI_pos (by omega) (Int32.lt_of_lt_of_le z (by decide))
      · exact z (nI_le (b := 5) hm (by decide))
    · rcases z with z | z
      · exact nI_pos (by omega) (Int32.lt_of_lt_of_le z (by decide))
      · exact nI_ge (a := m) (b := 6) (by omega) (by decide) z
theorem pf_edits (hb : hB b B) (I : lwI b o so po r ga ta (n + 2560) S A) (h3 : 3 ≤ zN A) {x y : Int32} (h : ∀ S' A', lwI b o so po r ga ta n S' A' → Q 1 (S', r)) : w_L_edits B o ga ta x y (S, r) Q := by
  have hM := rA_M (Jp_A I.1)
  have hn24 := hM.2.1
  have hg := I.2.2.1
  have ht := I.2.2.2
  have hW := I.2.1
  have hgz := gR_z hg hM
  obtain ⟨v, hv, ev⟩ := low_in x (d := 4) (by decide) (by decide)
  obtain ⟨i, hi, ei⟩ := low_in (x >>> (2 &&& 31)) (d := zN A) (by omega) (by omega)
  obtain ⟨kk, hkk, ek⟩ := low_in y (d := 6) (by decide) (by decide)
  obtain ⟨ff, hff, ef⟩ := low_in (y >>> (3 &&& 31)) (d := 3) (by decide) (by decide)
  obtain ⟨pq, hpq, epq⟩ := low_in (y >>> (7 &&& 31)) (d := 3) (by decide) (by decide)
  have he16 := (z_r hM hi hv).1
  have hzr := z_r hM hi hv
  have hLL := z_len hM hi
  have hsL := z_sL hM hi hv (Nat.le_refl (zE A v i))
  unfold w_L_edits
  dsimp only
  refine ⟨low_d (d := 4) (by decide) (by decide) _, fun x2 hx2 => ⟨vp4_0 hg, by rw [hgz]; exact low_d (by omega) (by omega) _, fun x5 hx5 => ?_⟩⟩
  have e2 : x2 = nI v := hx2.trans ev
  have e5 : x5 = nI i := by rw [hx5, hgz]; exact ei
  rw [e2, e5]
  refine rd_events (n := n + 2559) hb I.1 hv hi (fun S1 J1 => ?_)
  refine rd_left (n := n + 2558) hb J1 hv hi (fun S2 J2 => ?_)
  refine ⟨low_d (d := 6) (by decide) (by decide) _, fun x9 hx9 => ⟨low_d (d := 3) (by decide) (by decide) _, fun x11 hx11 => ⟨low_d (d := 4) (by decide) (by decide) _, fun _ => low_d (d := 3) (by decide) (by decide) _, fun x13 hx13 => ⟨low_d (d := 2) (by decide) (by decide) _, fun _ => ?_, fun _ => ⟨low_d (d := 4) (by decide) (by decide) _, True, fun _ => ?_, ?_, fun _ => trivial⟩⟩⟩⟩⟩
  all_goals
    have e9 : x9 = nI kk := hx9.trans ek
    have e11 : x11 = nI ff := hx11.trans ef
    obtain ⟨pp, hpp, e13⟩ : ∃ pp : Nat, (pp = 0 ∨ (40 ≤ pp ∧ pp ≤ 42)) ∧ x13 = nI pp := by
      by_cases c : v_L_low (y >>> (5 &&& 31)) 4 = 0
      · rw [if_pos c] at hx13
        exact ⟨0, Or.inl rfl, hx13⟩
      · rw [if_neg c] at hx13
        refine ⟨40 + pq, Or.inr ⟨by omega, by omega⟩, ?_⟩
        rw [hx13, show v_L_low (y >>> (7 &&& 31)) 3 = nI pq from epq]
        exact nI_add 40 pq
    have hpN : nI pp = 0 ∨ ∃ m : Nat, 40 ≤ m ∧ m ≤ 42 ∧ nI pp = nI m := by
      rcases hpp with z | ⟨z1, z2⟩
      · exact Or.inl (by rw [z]; rfl)
      · exact Or.inr ⟨pp, z1, z2, rfl⟩
    have hpx : pp ≤ 127 := by omega
  · obtain ⟨q, hq, eq⟩ := low_in y (d := 3) (by decide) (by decide)
    refine ⟨low_d (d := 3) (by decide) (by decide) _, ?_⟩
    rw [e13, show (1 : Int32) + v_L_low y 3 = nI (1 + q) by rw [show v_L_low y 3 = nI q from eq]; exact nI_add 1 q]
    exact lc_own hb J2 (pf_fills (n := n) hb ⟨Jp_dn J2 (by omega), I.2⟩ hv hi (by omega) hpp (fun S' A' I' _ _ => ⟨Or.inr rfl, h S' A' I'⟩))
  · refine ⟨low_d (d := 2) (by decide) (by decide) _, fun _ => ?_, fun hno => ?_⟩
    · have hm1 : nI (zE A v i) + 1 = nI (zE A v i + 1) := nI_1 _
      have e62 : nI (zE A v i) + 2 = nI (zE A v i + 2) := nI_add _ 2
      obtain ⟨j, hj, ej⟩ := low_in (y >>> (9 &&& 31)) (d := zE A v i + 1) (by omega) (by omega)
      rw [hm1]
      refine ⟨low_d (by omega) (by omega) _, fun x22 hx22 x23 hx23 x24 hx24 => ?_⟩
      have e22 : x22 = nI j := hx22.trans ej
      rw [e22, e13, e9, e11]
      rw [e9, e11] at hx23 hx24
      obtain ⟨T, hT⟩ : ∃ T, T = aN (tk (nI kk) (nI ff)) := ⟨_, rfl⟩
      obtain ⟨tk1, tk2, tk3⟩ := tk_ok hkk hff
      have etk : v_L_ticksOf (nI kk) (nI ff) = nI T := by rw [hT]; exact tk1
      rw [← hT] at tk1 tk2 tk3
      rw [etk] at hx24
      have J2' : Jp b o so po (n + 20 + 100) S2 A := Jp_dn J2 (by omega)
      have Ik : ∀ m S', Jp b o so po m S' A → lwI b o so po r ga ta m S' A := fun m S' J => ⟨J, I.2⟩
      by_cases can : kk = 5 ∧ ff = 1
      · have e23 : x23 = 0 := by
          rw [hx23, if_neg (fun z => ?_)]
          rcases z with z | z
          · rw [can.1] at z
            exact absurd z (by decide)
          · exact z (by rw [can.2]; rfl)
        rw [if_pos e23] at hx24
        refine ins_can (n := n + 20) hb (Jp_dn J2 (by omega)) hv (in_rng (x := 0) (y := 127) (Nat.zero_le _) hpx (by decide)) (in_rng (x := 0) (y := 5) (Nat.zero_le _) (by omega) (by decide)) (in_rng (x := 0) (y := 2) (Nat.zero_le _) (by omega) (by decide)) ⟨by rw [can.1]; rfl, by rw [can.2]; rfl⟩ (nI i) (nI j) (fun S4 J4 => ?_)
        refine ⟨fun x t => x = 1 ∧ ∃ S', t = ((S', r) : LwS) ∧ Jp b o so po n S' A, ?_, fun _ => False, fun _ z => z.elim, fun _ => ?_, fun z => absurd hx24.symm z⟩
        · rintro _ _ ⟨rfl, S', rfl, J'⟩
          exact ⟨Or.inr rfl, h S' A (Ik _ _ J')⟩
        refine rd_events (n := n + 19) hb (Jp_dn J4 (by omega) : Jp b o so po (n + 19 + 1) S4 A) hv hi (fun S5 J5 x31 hx31 => ⟨fun _ => ?_, fun z => absurd (by rw [hx31]; exact (by rw [hx24]; exact (if_neg (by decide)).symm)) z⟩)
        rw [e62]
        refine ins_idx (n := n + 18) (j := zE A v i + 2) hb J5 hv hi (by omega) (by omega) (by decide) (by decide) (by decide) (by decide) (fun S6 J6 => ⟨fun _ => ⟨vp4_0 hg, ?_⟩, fun z => absurd rfl z⟩)
        dsimp only
        rw [hgz]
        refine ins_bar (n := n + 17) hb J6 hv (by decide) (by decide) (by decide) (by decide) (by rw [← (rfl : zN A = zN A)]; exact isBar_n (rA_M (Jp_A J6))) 0 (fun S7 J7 => ⟨fun _ => ?_, fun z => absurd rfl z⟩)
        refine ins_voice (n := n + 16) hb J7 isV_4 0 0 1 0 0 (fun S8 J8 => ⟨fun _ => ?_, fun z => absurd rfl z⟩)
        refine ins_pitch (n := n + 15) hb J8 hv (by decide) (nI i) 0 0 0 (fun S9 J9 => ⟨fun _ => ?_, fun z => absurd rfl z⟩)
        refine ins_kind (n := n + 14) hb J9 hv (by decide) (by decide) (nI i) 0 0 (fun S10 J10 => ⟨fun _ => ?_, fun z => absurd rfl z⟩)
        exact ins_form (n := n + 13) hb J10 hv (by decide) (by decide) (by decide) (nI i) 0 (fun S11 J11 => ⟨fun _ => ⟨rfl, S11, rfl, Jp_dn J11 (by omega)⟩, fun z => absurd rfl z⟩)
      · have e23 : ¬ x23 = 0 := by
          rw [hx23, if_pos ?_]
          · exact one_ne
          by_cases c5 : kk = 5
          · exact Or.inr (fun z => can ⟨c5, (nI_eq (b := 1) (by omega) (by decide)).mp z⟩)
          · exact Or.inl (nI_lt (b := 5) (by omega) (by decide))
        rw [if_neg e23] at hx24
        by_cases hfit : zE A v i < 16 ∧ zS A v i (zE A v i) + T ≤ zL A i
        · have hfit' : insFit A v i (nI pp) (nI kk) (nI ff) := ⟨hfit.1, by rw [← hT]; exact hfit.2, wr_ok (hW.2 v hv) hpN⟩
          have n16 : ¬ nI (zE A v i) = 16 := fun z => absurd ((nI_eq (b := 16) (by omega) (by decide)).mp z) (by omega)
          have nT : nI T ≤ nI (zL A i - zS A v i (zE A v i)) := (nI_leI (by omega) (by omega)).mpr (by omega)
          rw [if_neg n16, if_pos nT, pk_sub (by omega)] at hx24
          refine ins_ok (n := n + 20) hb J2' hv hi (by omega) hkk hff hpx can hfit' (fun S4 J4 => ?_)
          obtain ⟨A4, hA4⟩ : ∃ A4, A4 = insA A v i j (aN (A.1 14)) (nI pp) (nI kk) (nI ff) := ⟨_, rfl⟩
          have hI : Ins A A4 v i j (aN (A.1 14)) (nI pp) (nI kk) (nI ff) := by rw [hA4]; exact insA_ok
          obtain ⟨-, hE4, hS4⟩ := in_M hM hI hv hi hfit.1 (by omega) hkk hff rfl rfl rfl hpx hfit'.2.1
          have hW4 : gdW A4 := by rw [hA4]; exact gdW_in hM hW hv hi hfit.1 (by omega) hpN
          rw [← hA4] at J4
          have hi4 : i < zN A4 := by rw [in_n hI]; exact hi
          have I4 : ∀ m S', Jp b o so po m S' A4 → lwI b o so po r ga ta m S' A4 := fun m S' J => lwI_k I J (by rw [hA4]; rfl) (by rw [hA4]; rfl) (by rw [hA4]; rfl) (by rw [hA4]; rfl) (by rw [hA4]; rfl) hW4
          have eL : nI (zL A i - (zS A v i (zE A v i) + aN (tk (nI kk) (nI ff)))) = x24 := by
            rw [← hT, hx24]
            congr 1
            omega
          have h0x : 0 ≤ x24 := by
            rw [hx24]
            exact nI_le (a := 0) (Nat.zero_le _) (by omega)
          refine ⟨fun x t => x = 1 ∧ ∃ S', t = ((S', r) : LwS) ∧ Jp b o so po n S' A4, ?_, fun _ => False, fun _ z => z.elim, fun _ => ?_, fun z => absurd eL z⟩
          · rintro _ _ ⟨rfl, S', rfl, J'⟩
            exact ⟨Or.inr rfl, h S' A4 (I4 _ _ J')⟩
          refine rd_events (n := n + 19) hb J4 hv hi4 (fun S5 J5 x31 hx31 => ⟨fun _ => ?_, fun z => absurd (by rw [hx31]; exact (by rw [if_pos h0x, hE4])) z⟩)
          rw [e62]
          refine ins_idx (n := n + 18) (j := zE A v i + 2) hb J5 hv hi4 (by rw [hE4]; omega) (by omega) (by decide) (by decide) (by decide) (by decide) (fun S6 J6 => ⟨fun _ => ⟨vp4_0 hg, ?_⟩, fun z => absurd rfl z⟩)
          dsimp only
          rw [hgz]
          refine ins_bar (n := n + 17) hb J6 hv (by decide) (by decide) (by decide) (by decide) (by rw [← in_n hI]; exact isBar_n (rA_M (Jp_A J6))) 0 (fun S7 J7 => ⟨fun _ => ?_, fun z => absurd rfl z⟩)
          refine ins_voice (n := n + 16) hb J7 isV_4 0 0 1 0 0 (fun S8 J8 => ⟨fun _ => ?_, fun z => absurd rfl z⟩)
          refine ins_pitch (n := n + 15) hb J8 hv (by decide) (nI i) 0 0 0 (fun S9 J9 => ⟨fun _ => ?_, fun z => absurd rfl z⟩)
          refine ins_kind (n := n + 14) hb J9 hv (by decide) (by decide) (nI i) 0 0 (fun S10 J10 => ⟨fun _ => ?_, fun z => absurd rfl z⟩)
          exact ins_form (n := n + 13) hb J10 hv (by decide) (by decide) (by decide) (nI i) 0 (fun S11 J11 => ⟨fun _ => ⟨rfl, S11, rfl, Jp_dn J11 (by omega)⟩, fun z => absurd rfl z⟩)
        · have hfit' : ¬ insFit A v i (nI pp) (nI kk) (nI ff) := fun z => hfit ⟨z.1, by rw [hT]; exact z.2.1⟩
          have e24 : x24 = -1000003 := by
            by_cases c : zE A v i = 16
            · rw [if_pos (by rw [c]; rfl)] at hx24
              exact hx24
            · have n16 : ¬ nI (zE A v i) = 16 := fun z => c ((nI_eq (b := 16) (by omega) (by decide)).mp z)
              have nT : ¬ nI T ≤ nI (zL A i - zS A v i (zE A v i)) := fun z => by
                have := (nI_leI (by omega) (by omega)).mp z
                exact hfit ⟨by omega, by omega⟩
              rw [if_neg n16, if_neg nT] at hx24
              exact hx24
          refine ins_no (n := n + 20) hb J2' hv hi (by omega) hkk hff hpx can hfit' (fun S4 J4 => ?_)
          refine ⟨fun x t => x = 1 ∧ ∃ S', t = ((S', r) : LwS) ∧ Jp b o so po n S' A, ?_, fun _ => False, fun _ z => z.elim, fun _ => ?_, fun z => absurd e24.symm z⟩
          · rintro _ _ ⟨rfl, S', rfl, J'⟩
            exact ⟨Or.inr rfl, h S' A (Ik _ _ J')⟩
          refine rd_events (n := n + 19) hb J4 hv hi (fun S5 J5 x31 hx31 => ⟨fun _ => ?_, fun z => absurd (by rw [hx31]; exact (by rw [e24]; exact (if_neg (by decide)).symm)) z⟩)
          rw [e62]
          refine ins_idx (n := n + 18) (j := zE A v i + 2) hb J5 hv hi (by omega) (by omega) (by decide) (by decide) (by decide) (by decide) (fun S6 J6 => ⟨fun _ => ⟨vp4_0 hg, ?_⟩, fun z => absurd rfl z⟩)
          dsimp only
          rw [hgz]
          refine ins_bar (n := n + 17) hb J6 hv (by decide) (by decide) (by decide) (by decide) (by rw [← (rfl : zN A = zN A)]; exact isBar_n (rA_M (Jp_A J6))) 0 (fun S7 J7 => ⟨fun _ => ?_, fun z => absurd rfl z⟩)
          refine ins_voice (n := n + 16) hb J7 isV_4 0 0 1 0 0 (fun S8 J8 => ⟨fun _ => ?_, fun z => absurd rfl z⟩)
          refine ins_pitch (n := n + 15) hb J8 hv (by decide) (nI i) 0 0 0 (fun S9 J9 => ⟨fun _ => ?_, fun z => absurd rfl z⟩)
          refine ins_kind (n := n + 14) hb J9 hv (by decide) (by decide) (nI i) 0 0 (fun S10 J10 => ⟨fun _ => ?_, fun z => absurd rfl z⟩)
          exact ins_form (n := n + 13) hb J10 hv (by decide) (by decide) (by decide) (nI i) 0 (fun S11 J11 => ⟨fun _ => ⟨rfl, S11, rfl, Jp_dn J11 (by omega)⟩, fun z => absurd rfl z⟩)
    · have hE : 0 < zE A v i := Nat.pos_of_ne_zero fun z => hno (Or.inr (by rw [z]; exact Int32.le_refl 0))
      obtain ⟨j, hj, ej⟩ := low_in y (d := zE A v i) hE (by omega)
      refine ⟨low_d hE (by omega) _, fun x40 hx40 => ?_⟩
      rw [show x40 = nI j from hx40.trans ej, e13]
      have hzm := hzr.2.2.2.2 j hj
      have hq31 := zp_31 hM hv hi hj
      have hev := hW.1 v i j hv hi hj
      have htr := hW.2 v hv
      refine rd_written (n := n + 2557) hb J2 hv hi hj (fun S3 J3 => ?_)
      obtain ⟨mq, hmq, emq⟩ := low_in (y >>> (9 &&& 31)) (d := 7) (by decide) (by decide)
      refine ⟨low_d (d := 7) (by decide) (by decide) _, fun x43 hx43 => ?_⟩
      have ha : x43 = -1 ∨ ∃ m : Nat, m ≤ 5 ∧ x43 = nI m := by
        rw [hx43, show v_L_low (y >>> (9 &&& 31)) 7 = nI mq from emq]
        by_cases c : mq = 0
        · exact Or.inl (by rw [c]; decide)
        · exact Or.inr ⟨mq - 1, by omega, pk_sub (a := mq) (b := 1) (by omega)⟩
      obtain ⟨ha1, ha2⟩ := mk_ok ha
      refine mu_setMark (n := n + 2400) hb (Jp_dn J3 (by omega)) hv hi hj ha1 (fun S4 J4 => ?_)
      obtain ⟨A1, hA1⟩ : ∃ A1, A1 = msA (msI A 45 0) 11 (nI (zp v i j)) x43 := ⟨_, rfl⟩
      have hd1 : edE A A1 := by rw [hA1]; exact edE_A ⟨fun _ _ => rfl, fun _ _ _ _ => rfl⟩ (Or.inr (Or.inl rfl))
      have hW1 : gdW A1 := by rw [hA1]; exact gdW_mark hM hW hv hi hj ha
      have h81 : A1.2 8 = A.2 8 := by rw [hA1]; exact mA_ne (by decide)
      have hm1 : A1.2 11 (zp v i j) = x43 := by rw [hA1]; exact (mA_at hq31).trans (if_pos rfl)
      rw [← hA1] at J4
      refine ⟨low_d (d := 2) (by decide) (by decide) _, fun x46 hx46 => ?_⟩
      have hgb : gb x46 := by
        rw [hx46]
        exact gb_if
      -- what holds of the state behind the tie, told or refused
      have hi1 : i < zN A1 := by rw [edE_n hd1]; exact hi
      have hj1 : j < zE A1 v i := by rw [edE_e hd1]; exact hj
      have step : ∀ (x47 : Int32) (S5 : CS) (A2 : MS), Jp b o so po (n + 2200) S5 A2 → edE A A2 → gdW A2 → A2.2 8 = A.2 8 → A2.2 11 (zp v i j) = x43 → ((A.2 8 (zp v i j) = 0 ∧ x47 = -1000003) ∨ (¬ A.2 8 (zp v i j) ≤ 0 ∧ gb x47 ∧ A2.2 12 (zp v i j) = x46)) → (∃ J438 : Int32 → LwS → Prop, (∀ x48 : Int32, ∀ t49 : LwS, J438 x48 t49 → (∃ J561 : Int32 → LwS → Prop, (∀ x50 : Int32, ∀ t51 : LwS, J561 x50 t51 → ((gb x50) ∧ Q x50 t51)) ∧ ∃ J560 : LwS → Prop, (∀ t53 : LwS, J560 t53 → (J561 0 t53)) ∧ (((x48 = 0) → J560 t49) ∧ (¬ (x48 = 0) → lcall B t49 (fun B1 K => w_L_setPitch B1 o (nI v) (nI i) (nI j) (nI pp) t49 K) (fun r54 t54 => ((¬ ((zWr A v i j) = (-1))) → vp_in (nI v) (rN t54.2 ta)) ∧ ∀ x55 : Int32, x55 = (if (zWr A v i j) = (-1) then (0 : Int32) else ((zWr A v i j) - (rG t54.2 ta (Int32.toNatClampNeg (nI v))))) → ((r54 = x55) → lcall B t54 (fun B1 K => w_L_written B1 o (nI v) (nI i) (nI j) t54 K) (fun r57 t57 => ((¬ ((nI pp) = 0)) → vp_in (nI v) (rN t57.2 ta)) ∧ ∀ x58 : Int32, x58 = (if (nI pp) = 0 then ((-1) : Int32) else ((nI pp) + (rG t57.2 ta (Int32.toNatClampNeg (nI v))))) → ((r57 = x58) → lcall B t57 (fun B1 K => w_L_setPitch B1 o (nI v) (nI i) (nI j) 128 t57 K) (fun r60 t60 => ((r60 = (-1000002)) → lcall B t60 (fun B1 K => w_L_setPitch B1 o (nI v) (nI i) (nI (zE A v i)) 1 t60 K) (fun r61 t61 => ((r61 = (-1000001)) → lcall B t61 (fun B1 K => w_L_setTie B1 o (nI v) (nI i) (nI (zE A v i)) 1 t61 K) (fun r62 t62 => ((r62 = (-1000001)) → J561 1 t62) ∧ (¬ (r62 = (-1000001)) → J560 t62))) ∧ (¬ (r61 = (-1000001)) → J560 t61))) ∧ (¬ (r60 = (-1000002)) → J560 t60))) ∧ (¬ (r57 = x58) → J560 t57))) ∧ (¬ (r54 = x55) → J560 t54)))))) ∧ ∃ J437 : LwS → Prop, (∀ t63 : LwS, J437 t63 → (J438 0 t63)) ∧ (((((A.2 11 (zp v i j)) < (-1)) ∨ (6 ≤ (A.2 11 (zp v i j)))) → J437 (S5, r)) ∧ (¬ (((A.2 11 (zp v i j)) < (-1)) ∨ (6 ≤ (A.2 11 (zp v i j)))) → lcall B (S5, r) (fun B1 K => w_L_setMark B1 o (nI v) (nI i) (nI j) x43 (S5, r) K) (fun r64 t64 => ((r64 = x43) → lcall B t64 (fun B1 K => w_L_setMark B1 o (nI v) (nI i) (nI j) 6 t64 K) (fun r65 t65 => ((r65 = (-1000002)) → lcall B t65 (fun B1 K => w_L_setMark B1 o (nI v) (nI i) (nI (zE A v i)) 0 t65 K) (fun r66 t66 => ((r66 = (-1000001)) → ∃ J433 : LwS → Prop, (∀ t67 : LwS, J433 t67 → (J438 1 t67)) ∧ ((((zWr A v i j) = (-1)) → ((x47 = (-1000003)) → J433 t66) ∧ (¬ (x47 = (-1000003)) → J437 t66)) ∧ (¬ ((zWr A v i j) = (-1)) → ((x47 < 0) → J437 t66) ∧ (¬ (x47 < 0) → lcall B t66 (fun B1 K => w_L_setTie B1 o (nI v) (nI i) (nI j) x46 t66 K) (fun r68 t68 => ∀ x69 : Int32, x69 = (if ¬ (x46 = 0) then 1 else 0) → ((r68 = x69) → J433 t68) ∧ (¬ (r68 = x69) → J437 t68)))))) ∧ (¬ (r66 = (-1000001)) → J437 t66))) ∧ (¬ (r65 = (-1000002)) → J437 t65))) ∧ (¬ (r64 = x43) → J437 t64))))) := by
        intro x47 S5 A2 J5 hd2 hW2 h82 hm2 hcase
        have hi2 : i < zN A2 := by rw [edE_n hd2]; exact hi
        have hj2 : j < zE A2 v i := by rw [edE_e hd2]; exact hj
        have he2 : zE A2 v i ≤ zE A v i := by rw [edE_e hd2]; exact Nat.le_refl _
        refine ⟨fun x t => x = 1 ∧ ∃ S' A', t = ((S', r) : LwS) ∧ Jp b o so po (n + 130) S' A' ∧ edE A A' ∧ gdW A' ∧ A'.2 8 = A.2 8, ?_, fun _ => False, fun _ z => z.elim, ?_, fun _ => ?_⟩
        · rintro _ _ ⟨rfl, S6, A6, rfl, J6, hd6, hW6, h86⟩
          have hi6 : i < zN A6 := by rw [edE_n hd6]; exact hi
          have hj6 : j < zE A6 v i := by rw [edE_e hd6]; exact hj
          have hM6 := rA_M (Jp_A J6)
          refine ⟨fun x t => x = 1 ∧ ∃ S' A', t = ((S', r) : LwS) ∧ lwI b o so po r ga ta n S' A', ?_, fun _ => False, fun _ z => z.elim, fun z => absurd z one_ne, fun _ => ?_⟩
          · rintro _ _ ⟨rfl, S', A', rfl, I'⟩
            exact ⟨Or.inr rfl, h S' A' I'⟩
          refine mu_setPitch (n := n + 30) hb J6 hv hi6 hj6 (in_rng (x := 0) (y := 127) (Nat.zero_le _) hpx (by decide)) (wr_ok (hW6.2 v hv) hpN) (fun S7 J7 => ?_)
          obtain ⟨A7, hA7⟩ : ∃ A7, A7 = msA (msA (msI A6 45 0) 8 (nI (zp v i j)) (nI pp)) 12 (nI (zp v i j)) (if ¬ A6.2 12 (zp v i j) = 0 ∧ ¬ nI pp ≤ 0 then 1 else 0) := ⟨_, rfl⟩
          rw [← hA7] at J7
          have hd7 : edE A A7 := by
            refine ⟨fun k hk => ?_, fun f f1 f2 f3 => ?_⟩
            · rw [hA7]
              exact (n45 rfl hk).trans (hd6.1 k hk)
            · rw [hA7, mA_ne f3, mA_ne f1]
              exact hd6.2 f f1 f2 f3
          have hW7 : gdW A7 := by rw [hA7]; exact gdW_pitch hM6 hW6 hv hi6 hj6 hpN
          have h87 : A7.2 8 (zp v i j) = nI pp := by
            rw [hA7, mA_ne (by decide)]
            exact (mA_at hq31).trans (if_pos rfl)
          have hi7 : i < zN A7 := by rw [edE_n hd7]; exact hi
          have hj7 : j < zE A7 v i := by rw [edE_e hd7]; exact hj
          have I7 : ∀ m S', Jp b o so po m S' A7 → lwI b o so po r ga ta m S' A7 := fun m S' J => edE_I I hd7 J hW7
          refine ⟨fun _ => tR_vp ht hv, fun x55 hx55 => ⟨fun _ => ?_, fun z => absurd ?_ z⟩⟩
          · refine rd_written (n := n + 29) hb J7 hv hi7 hj7 (fun S8 J8 => ⟨fun _ => tR_vp ht hv, fun x58 hx58 => ⟨fun _ => ?_, fun z => absurd ?_ z⟩⟩)
            · refine no_pitch_bad (n := n + 28) hb J8 (by decide) (nI v) (nI i) (nI j) (fun S9 J9 => ⟨fun _ => ?_, fun z => absurd rfl z⟩)
              refine no_pitch_out (n := n + 27) (j := zE A v i) hb J9 hv hi7 (by rw [edE_e hd7]; exact Nat.le_refl _) (by omega) (by decide) (fun S10 J10 => ⟨fun _ => ?_, fun z => absurd rfl z⟩)
              exact no_tie_out (n := n + 26) (j := zE A v i) hb J10 hv hi7 (by rw [edE_e hd7]; exact Nat.le_refl _) (by omega) 1 (fun S11 J11 => ⟨fun _ => ⟨rfl, S11, A7, rfl, I7 _ _ (Jp_dn J11 (by omega))⟩, fun z => absurd rfl z⟩)
            · rw [hx58]
              exact zWr_is h87 hpx (I7 _ _ J7).2.2.2 hv
          · rw [hx55, h86]
            rcases hev.2 with z0 | ⟨m, m1, m2, z0⟩
            · rw [if_pos (zWr_no z0), z0]
            · obtain ⟨w1, w2⟩ := zWr_in z0 m1 m2 htr
              rw [if_neg (by rw [w1]; exact w2), w1, z0]
              show nI m = nI m + A.2 13 v - rG r ta (Int32.toNatClampNeg (nI v))
              rw [tR_at ht hv, Int32.add_sub_cancel]
        · intro z
          exact absurd z ((mk_ok hev.1).2)
        · refine mu_setMark (n := n + 2090) hb (Jp_dn J5 (by omega)) hv hi2 hj2 ha1 (fun S6 J6 => ⟨fun _ => ?_, fun z => absurd hm2 z⟩)
          obtain ⟨A3, hA3⟩ : ∃ A3, A3 = msA (msI A2 45 0) 11 (nI (zp v i j)) x43 := ⟨_, rfl⟩
          have hM2 := rA_M (Jp_A J5)
          have hd3 : edE A A3 := by rw [hA3]; exact edE_A hd2 (Or.inr (Or.inl rfl))
          have hW3 : gdW A3 := by rw [hA3]; exact gdW_mark hM2 hW2 hv hi2 hj2 ha
          have h83 : A3.2 8 = A.2 8 := by rw [hA3]; exact (mA_ne (by decide)).trans h82
          have h123 : A3.2 12 = A2.2 12 := by rw [hA3]; exact mA_ne (by decide)
          have hi3 : i < zN A3 := by rw [edE_n hd3]; exact hi
          have hj3 : j < zE A3 v i := by rw [edE_e hd3]; exact hj
          rw [← hA3] at J6
          refine no_mark_bad (n := n + 2089) hb J6 (by decide) (nI v) (nI i) (nI j) (fun S7 J7 => ⟨fun _ => ?_, fun z => absurd rfl z⟩)
          refine no_mark_out (n := n + 2088) (j := zE A v i) hb J7 hv hi3 (by rw [edE_e hd3]; exact Nat.le_refl _) (by omega) (by decide) (fun S8 J8 => ⟨fun _ => ?_, fun z => absurd rfl z⟩)
          refine ⟨fun t => ∃ S' A', t = ((S', r) : LwS) ∧ Jp b o so po (n + 130) S' A' ∧ edE A A' ∧ gdW A' ∧ A'.2 8 = A.2 8, ?_, fun z => ⟨fun _ => ⟨S8, A3, rfl, Jp_dn J8 (by omega), hd3, hW3, h83⟩, fun z2 => ?_⟩, fun z => ⟨fun z2 => ?_, fun z2 => ?_⟩⟩
          · rintro _ ⟨S', A', rfl, g⟩
            exact ⟨rfl, S', A', rfl, g⟩
          · rcases hcase with ⟨c1, c2⟩ | ⟨c1, -⟩
            · exact z2 c2
            · rcases hev.2 with z0 | ⟨m, m1, m2, z0⟩
              · exact c1 (by rw [z0]; exact Int32.le_refl 0)
              · obtain ⟨w1, w2⟩ := zWr_in z0 m1 m2 htr
                rw [w1] at z
                exact w2 z
          · rcases hcase with ⟨c1, c2⟩ | ⟨-, c2, -⟩
            · exact z (zWr_no c1)
            · rcases c2 with c2 | c2 <;> rw [c2] at z2 <;> exact absurd z2 (by decide)
          · rcases hcase with ⟨c1, c2⟩ | ⟨c1, c2, c3⟩
            · exact absurd (zWr_no c1) z
            · refine mu_setTie (n := n + 1980) hb (Jp_dn J8 (by omega)) hv hi3 hj3 (by rw [h83]; exact c1) hgb (fun S9 J9 x69 hx69 => ⟨fun _ => ?_, fun z3 => absurd ?_ z3⟩)
              · refine ⟨S9, _, rfl, Jp_dn J9 (by omega), edE_A hd3 (Or.inr (Or.inr rfl)), gdW_k hW3 rfl (mA_ne (by decide)) (mA_ne (by decide)) (mA_ne (by decide)) (mA_ne (by decide)), ?_⟩
                exact (mA_ne (by decide)).trans h83
              · rw [h123, c3, hx69]
                rcases hgb with e | e <;> rw [e] <;> decide
      by_cases c8 : A1.2 8 (zp v i j) ≤ 0
      · refine mu_setTie_rest (n := n + 2399) hb J4 hv hi1 hj1 c8 (fun S5 J5 => ?_)
        refine step _ S5 A1 (Jp_dn J5 (by omega)) hd1 hW1 h81 hm1 (Or.inl ⟨?_, rfl⟩)
        rw [h81] at c8
        rcases hev.2 with z0 | ⟨m, m1, m2, z0⟩
        · exact z0
        · rw [z0] at c8
          exact absurd c8 (nI_nle (by omega) (by omega))
      · refine mu_setTie (n := n + 2300) hb J4 hv hi1 hj1 c8 hgb (fun S5 J5 => ?_)
        refine step _ S5 _ (Jp_dn J5 (by omega)) (edE_A hd1 (Or.inr (Or.inr rfl))) (gdW_k hW1 rfl (mA_ne (by decide)) (mA_ne (by decide)) (mA_ne (by decide)) (mA_ne (by decide))) ((mA_ne (by decide)).trans h81) ((congrFun (mA_ne (by decide)) _).trans hm1) (Or.inr ⟨by rw [← h81]; exact c8, ?_, (mA_at hq31).trans (if_pos rfl)⟩)
        exact ((z_r (rA_M (Jp_A J4)) hi1 hv).2.2.2.2 j hj1).2.2.2.2.2.2.2
  · refine fun _ => ⟨fun _ => trivial, fun hpos => ?_⟩
    have hE : 0 < zE A v i := Nat.pos_of_ne_zero fun z => hpos (by rw [z]; exact Int32.le_refl 0)
    obtain ⟨j, hj, ej⟩ := low_in y (d := zE A v i) hE (by omega)
    refine ⟨low_d hE (by omega) _, fun x71 hx71 => ?_⟩
    rw [show x71 = nI j from hx71.trans ej]
    refine mu_remove (n := n + 20) hb (Jp_dn J2 (by omega)) hv hi hj (fun S4 J4 => ?_)
    obtain ⟨A4, hA4⟩ : ∃ A4, A4 = remA A v i j (aN (A.1 14)) := ⟨_, rfl⟩
    have hI : Rem A A4 v i j (aN (A.1 14)) := by rw [hA4]; exact remA_ok
    obtain ⟨-, hE4, hS4⟩ := re_M hM hI hv hi hj
    have hW4 : gdW A4 := by rw [hA4]; exact gdW_re hM hW hv hi hj
    rw [← hA4] at J4
    have hi4 : i < zN A4 := by rw [re_n hI]; exact hi
    have I4 : ∀ m S', Jp b o so po m S' A4 → lwI b o so po r ga ta m S' A4 := fun m S' J => lwI_k I J (by rw [hA4]; rfl) (by rw [hA4]; rfl) (by rw [hA4]; rfl) (by rw [hA4]; rfl) (by rw [hA4]; rfl) hW4
    have hk2 : 2 ≤ zK A v i j ∧ zK A v i j ≤ 144 := ⟨(hzr.2.2.2.2 j hj).2.1, (hzr.2.2.2.2 j hj).2.2.1⟩
    have hL4 : zL A4 = zL A := (re_l hI).1
    have e1 : nI (zE A v i) - 1 = nI (zE A v i - 1) := pk_sub (a := zE A v i) (b := 1) hE
    refine ⟨fun x t => x = 1 ∧ ∃ S', t = ((S', r) : LwS) ∧ Jp b o so po n S' A4, ?_, fun _ => False, fun _ z => z.elim, fun z => absurd z (nI_nle (by omega) (by omega)), fun _ => ?_⟩
    · rintro _ _ ⟨rfl, S', rfl, J'⟩
      exact ⟨Or.inr rfl, h S' A4 (I4 _ _ J')⟩
    rw [e1]
    refine rd_events (n := n + 19) hb J4 hv hi4 (fun S5 J5 => ⟨fun _ => ?_, fun z => absurd (by rw [hE4]) z⟩)
    refine rd_left (n := n + 18) hb J5 hv hi4 (fun S6 J6 => ⟨fun _ => ?_, fun z => absurd ?_ z⟩)
    · refine no_remove_bad (n := n + 17) hb J6 isV_4 (nI i) 0 (fun S7 J7 => ⟨fun _ => ?_, fun z => absurd rfl z⟩)
      exact no_remove_out (n := n + 16) (j := zE A v i - 1) hb J7 hv hi4 (by omega) (by omega) (fun S8 J8 => ⟨fun _ => ⟨rfl, S8, rfl, Jp_dn J8 (by omega)⟩, fun z => absurd rfl z⟩)
    · rw [nI_add, hL4, hE4]
      congr 1
      omega
end DE

