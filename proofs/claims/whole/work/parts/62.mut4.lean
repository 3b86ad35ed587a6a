/-! MUTATORS: transpositions, paper, metres, phrases dropped -/
section MH
variable {S S' : CS} {A A' t : MS} {o so po : Nat}
theorem rA_oth (hA : rA S A o so po) (g : Eqf fB0 S S') (gk : Eqf (fun f => f = 224 ∨ f = 225) S S') (h0 : A'.1 0 = A.1 0) (hr : ∀ k, k = 1 ∨ k = 2 ∨ k = 3 ∨ (6 ≤ k ∧ k ≤ 12) → A'.2 k = A.2 k) (h26 : A'.2 26 0 = A.2 26 0) (hP : rP S' A' so) (hT : rT S' A' so) (hS : rS S' A' so) : rA S' A' o so po := by
  obtain ⟨b1, b2, b3, b4, b5, b6, b7, b8, b9, b10⟩ := hA
  obtain ⟨q1, -, q2⟩ := gk o (by rw [b1]; decide)
  obtain ⟨p1, -, -⟩ := gk po (by rw [b4]; decide)
  refine ⟨q1.trans b1, ((q2 224 (Or.inl rfl)).2.2.1).trans b2, ((q2 225 (Or.inr rfl)).2.2.1).trans b3, p1.trans b4, ?_, ?_, hP, hT, hS, ?_⟩
  · exact rB_c b5 g h0 (hr 1 (by decide)) (hr 2 (by decide)) (hr 3 (by decide)) (hr 6 (by decide)) (hr 7 (by decide)) (hr 8 (by decide)) (hr 9 (by decide)) (hr 10 (by decide)) (hr 11 (by decide)) (hr 12 (by decide))
  · exact (zM_c h0 (hr 1 (by decide)) (hr 2 (by decide)) (hr 3 (by decide)) (hr 6 (by decide)) (hr 7 (by decide)) (hr 8 (by decide)) (hr 9 (by decide)) (hr 10 (by decide)) (hr 12 (by decide))).mpr b6
  · exact (zZ_c h0 (hr 6 (by decide)) (hr 7 (by decide)) h26).mpr b10
def zTr (A : MS) (v : Nat) (b : Int32) : Prop := ∀ i j, i < zN A → j < zE A v i → ¬ v_isWritten 0 (A.2 8 (zp v i j)) b = 0
theorem wr_x (x y a b : Int32) : v_isWritten x a b = v_isWritten y a b := rfl
theorem cc_trans (h : rB S A so) (w : zM A) {B : Nat × Nat} {Q : Int32 → CS → Prop} {X : String → CS → Prop} {v : Nat} {b : Int32} (hv : v < 4) (h1 : zTr A v b → Q 1 S) (h0 : ¬ zTr A v b → Q 0 S) : w_X9_canBeTransposed B so (nI v) b S Q X := by
  have hn := w.2.1
  have hl : nI (fL S 192 so).length = nI (zN A) := congrArg nI (cc_n h w)
  refine lp_for (fun k z => z = nI k ∧ ∀ i j, i < k → j < zE A v i → ¬ v_isWritten 0 (A.2 8 (zp v i j)) b = 0) (zN A) ?_ ?_ 0 (Nat.zero_le _) 0 ⟨rfl, fun i j hi => absurd hi (Nat.not_lt_zero _)⟩
  · intro k hk K z hz hK
    obtain ⟨hz, hok⟩ := hz
    subst hz
    obtain ⟨r1, r2, r3⟩ := cc_rw h w hk hv
    have he := (z_r w hk hv).1
    have es : v_X8_size (rwL S so v k) S = nI (zE A v k) := congrArg nI (cc_e h w hk hv)
    unfold w_X9_canBeTransposed_L2
    rw [hl]
    refine ⟨h.1, fun h9 => absurd h9 (nI_ge hk (by omega)), fun _ => ⟨r1, ?_⟩⟩
    refine lp_for (fun j z => z = nI j ∧ ∀ j2, j2 < j → ¬ v_isWritten 0 (A.2 8 (zp v k j2)) b = 0) (zE A v k) ?_ ?_ 0 (Nat.zero_le _) 0 ⟨rfl, fun i hi => absurd hi (Nat.not_lt_zero _)⟩
    · intro j hj K2 z hz hK2
      obtain ⟨hz, hok2⟩ := hz
      subst hz
      obtain ⟨q1, q2, q3⟩ := cc_ev h w hk hv hj
      have eg : v_X8_get (rwL S so v k) (nI j) S = evL S so v k j := q2
      unfold w_X9_canBeTransposed_L24
      rw [r2, es, eg, q3.2.1, wr_eq (x := 0)]
      refine ⟨r3, r3, fun h9 => absurd h9 (nI_ge hj (by omega)), fun _ => ⟨⟨r3, q1, by rw [q2]; exact q3.1⟩, q3.1, fun e => h0 (fun z => z k j hk hj e), fun e => ?_⟩⟩
      rw [nI_1]
      refine hK2 _ ⟨rfl, fun j2 hj2 => ?_⟩
      by_cases e2 : j2 = j
      · rw [e2]; exact e
      · exact hok2 j2 (by omega)
    · intro K2 z hz
      obtain ⟨hz, hok2⟩ := hz
      subst hz
      unfold w_X9_canBeTransposed_L24
      rw [r2, es]
      refine ⟨r3, r3, fun _ => ?_, fun h9 => absurd (nI_le (Nat.le_refl _) (by omega)) h9⟩
      rw [nI_1]
      refine hK _ ⟨rfl, fun i j hi hj => ?_⟩
      by_cases e2 : i = k
      · subst e2; exact hok2 j hj
      · exact hok i j (by omega) hj
  · intro K z hz
    obtain ⟨hz, hok⟩ := hz
    subst hz
    unfold w_X9_canBeTransposed_L2
    rw [hl]
    exact ⟨h.1, fun _ => h1 hok, fun h9 => absurd (nI_le (Nat.le_refl _) (by omega)) h9⟩
theorem dm16 {x : Nat} (hx : x < 100000) : nI x / 16 = nI (x / 16) ∧ mRem (nI x) 16 = nI (x % 16) := ⟨pk_div (a := x) (d := 16) (by omega) (by decide) (by decide), pk_rem (a := x) (d := 16) (by omega) (by decide) (by decide)⟩
theorem mm_trans (w : zM t) {Q : Int32 → MS → Prop} {v : Nat} {b : Int32} (hv : v < 4) (hz : ¬ v_isVoice (nI v) = 0) (hb : ¬ v_in b (-12) 12 = 0) (h1 : zTr t v b → Q (t.2 13 v) (msA (msI t 45 0) 13 (nI v) b)) (h0 : ¬ zTr t v b → Q 0 (msI t 45 2)) : w_transpose (nI v) b t Q := by
  have hn := w.2.1
  intro x1 hx1
  rw [if_pos ⟨hz, hb⟩] at hx1
  subst hx1
  refine lp_for (fun k z => (z = (1, nI k) ∧ ∀ i j, 16 * i + j < k → i < zN t → j < zE t v i → ¬ v_isWritten 0 (t.2 8 (zp v i j)) b = 0) ∨ (z.1 = 0 ∧ ¬ zTr t v b)) 384 ?_ ?_ 0 (Nat.zero_le _) (1, 0) (Or.inl ⟨rfl, fun i j hi => absurd hi (Nat.not_lt_zero _)⟩)
  · intro k hk K z hz2 hK
    rcases hz2 with ⟨hz2, hok⟩ | ⟨hz2, hno⟩
    · subst hz2
      obtain ⟨d1, d2⟩ := dm16 (x := k) (by omega)
      have hi4 : (nI k).toNatClampNeg = k := nI_clamp (by omega)
      refine ⟨fun h9 => h9.elim (fun h9 => absurd h9 (nI_ge (a := k) (b := 384) hk (by decide))) (fun h9 => absurd h9 one_ne), fun _ x7 hx7 => ?_⟩
      dsimp only at hx7 ⊢
      rw [d1] at hx7
      subst hx7
      have e0 : mgI t 0 = nI (zN t) := w.1
      have hp := zp_lt (v := v) (i := k / 16) (j := k % 16) hv (by omega) (by omega)
      have e6 : mgA t 6 (v_at (nI v) (nI (k / 16))) = t.2 6 (24 * v + k / 16) := by
        rw [at_nI hv]
        exact Ag_A (Ag_rfl t) (by decide) (by omega)
      have e8 : mgA t 8 (v_place (nI v) (nI (k / 16)) (nI (k % 16))) = t.2 8 (zp v (k / 16) (k % 16)) := by
        rw [pl_nI hv]
        exact Ag_A (Ag_rfl t) (by decide) (by omega)
      rw [d2, e6, e8, e0, pl_nI hv, at_nI hv, nI_1, wr_x (nI v) 0]
      refine ⟨fun _ => vp_nI (n := 96) (by omega) (by decide), fun _ _ => vp_nI (n := 1536) hp (by decide), fun x8 hx8 => hK _ ?_⟩
      by_cases hbar : zN t ≤ k / 16
      · rw [if_pos (Or.inl (nI_le hbar (by omega)))] at hx8
        rw [hx8]
        exact Or.inl ⟨rfl, fun i j hij hi hj => hok i j (by have := (z_r w hi hv).1; omega) hi hj⟩
      · have hbar2 : k / 16 < zN t := by omega
        obtain ⟨he1, he2, -⟩ := z_r w hbar2 hv
        rw [he2] at hx8
        by_cases hev : zE t v (k / 16) ≤ k % 16
        · rw [if_pos (Or.inr (Or.inl (nI_le hev (by omega))))] at hx8
          rw [hx8]
          refine Or.inl ⟨rfl, fun i j hij hi hj => hok i j ?_ hi hj⟩
          have := (z_r w hi hv).1
          by_cases e9 : 16 * i + j = k
          · have e1 : i = k / 16 := by omega
            have e2 : j = k % 16 := by omega
            rw [e1, e2] at hj
            omega
          · omega
        · by_cases hw : v_isWritten 0 (t.2 8 (zp v (k / 16) (k % 16))) b = 0
          · rw [if_neg (fun z9 => z9.elim (fun z9 => nI_ge hbar2 (by omega) z9) (fun z9 => z9.elim (fun z9 => nI_ge (a := k % 16) (b := zE t v (k / 16)) (by omega) (by omega) z9) (fun z9 => z9 hw)))] at hx8
            rw [hx8]
            exact Or.inr ⟨rfl, fun z9 => z9 (k / 16) (k % 16) hbar2 (by omega) hw⟩
          · rw [if_pos (Or.inr (Or.inr hw))] at hx8
            rw [hx8]
            refine Or.inl ⟨rfl, fun i j hij hi hj => ?_⟩
            have := (z_r w hi hv).1
            by_cases e9 : 16 * i + j = k
            · have e1 : i = k / 16 := by omega
              have e2 : j = k % 16 := by omega
              rw [e1, e2]
              exact hw
            · exact hok i j (by omega) hi hj
    · exact ⟨fun _ => i_go2 one_ne hz2 ⟨fun _ => h0 hno, fun h9 => absurd rfl h9⟩, fun h9 => absurd (Or.inr hz2) h9⟩
  · intro K z hz2
    rcases hz2 with ⟨hz2, hok⟩ | ⟨hz2, hno⟩
    · subst hz2
      refine ⟨fun _ => i_go0 one_ne one_ne one_ne ⟨fun h9 => absurd h9 one_ne, fun _ => ⟨vp_nI (n := 4) hv (by decide), fun x4 hx4 => ⟨vp_nI (n := 4) hv (by decide), fun t6 ht6 => ?_⟩⟩⟩, fun h9 => absurd (Or.inl (nI_le (Nat.le_refl 384) (by decide))) h9⟩
      subst ht6
      have e4 : x4 = t.2 13 v := hx4.trans (Ag_A (ag45 t 0) (f := 13) (i := v) (by decide) (by omega))
      rw [e4]
      exact h1 (fun i j hi hj => hok i j (by have := (z_r w hi hv).1; omega) hi hj)
    · exact ⟨fun _ => i_go2 one_ne hz2 ⟨fun _ => h0 hno, fun h9 => absurd rfl h9⟩, fun h9 => absurd (Or.inr hz2) h9⟩
theorem mm_trans0 {Q : Int32 → MS → Prop} {a b : Int32} (hz : v_isVoice a = 0 ∨ v_in b (-12) 12 = 0) (h : Q 0 (msI t 45 1)) : w_transpose a b t Q := by
  intro x1 hx1
  have e : x1 = 0 := by
    rw [hx1, if_neg]
    exact fun z => hz.elim z.1 z.2
  subst e
  exact ⟨1, fun _ => i_go1 rfl ⟨fun _ => h, fun h9 => absurd rfl h9⟩, fun h9 => absurd (Or.inr rfl) h9⟩
end MH
section MI
variable {lb : Nat × Nat} {o so po : Nat} {I : Nat → CS → MS → Prop}
theorem si_transpose (hI : Im lb o so po I) : Si_transpose lb o I := by
  intro n S t ov a1 a2 h
  obtain ⟨hA, hr, hn, hm⟩ := hI n S t h
  have hB := rA_B hA
  have hM := rA_M hA
  refine ⟨(szC S + 100, nsC S + 2000), rm_0 hr, a_reqVoice rm_1 (fun v hv ev hz => a_reqRange rm_1 (fun hc hc2 => ⟨hA.1, ne_so hA.2.1, by rw [oG_so hA.2.1]; exact hB.1, ?_⟩) (fun hc sz ns => ?_)) (fun hz sz ns => ?_)⟩
  · subst ev
    rw [oG_so hA.2.1]
    refine cc_trans hB hM hv (fun hT => ⟨fun h9 => absurd h9 one_ne, fun _ => ?_⟩) (fun hT => ⟨fun _ => ⟨rm_1, fun sz ns => ?_⟩, fun h9 => absurd rfl h9⟩)
    · rw [oG_so hA.2.1]
      refine ⟨ne_so hA.2.1, hB.1, vp_nI (n := 4) hv (by decide), fun x11 hx11 => ⟨vp_nI (n := 4) hv (by decide), fun t13 ht13 => ?_⟩⟩
      subst ht13
      refine i_ed hA.2.1 hB.1 ?_
      intro _ _
      refine mm_trans hM hv hz hc (fun _ => ?_) (fun h9 => absurd hT h9)
      have ec : (nI v).toNatClampNeg = v := nI_clamp (by omega)
      have e11 : x11 = t.2 13 v := by
        rw [hx11, ec]
        exact (rA_S hA).1 v hv
      have hs : kdC S so ≠ 0 := by rw [hB.1]; decide
      refine ⟨thr_same t 0, fun _ => by rw [e11]; rfl, hm _ _ ?_ ?_ ?_ (Nat.le_add_right _ _) (Nat.le_add_right _ _)⟩
      · have gB : ∀ P : Nat → Prop, ¬ P 195 → ¬ P 199 → Eqf P S (usI (usA S 195 so (nI v) a2) 199 so (fI (usA S 195 so (nI v) a2) 199 so + 1)) := fun P h1 h2 => Eqf_usI (Eqf_usA Eqf_rfl (Or.inl h1)) (Or.inl h2)
        refine rA_oth hA (gB _ (by unfold fB0; decide) (by unfold fB0; decide)) (gB _ (by decide) (by decide)) (n45 rfl (by decide)) (fun k hk => mA_ne (by omega)) (congrFun (mA_ne (by decide)) 0) ?_ ?_ ?_
        · exact rP_c hs (rA_P hA) (gB _ (by unfold fP0; decide) (by unfold fP0; decide)) (fun _ _ _ _ _ _ => rfl) (n45 rfl (by decide)) (mA_ne (by decide)) (n45 rfl (by decide)) (mA_ne (by decide)) (mA_ne (by decide)) (mA_ne (by decide)) (mA_ne (by decide)) (mA_ne (by decide)) (mA_ne (by decide))
        · exact rT_c hs (rA_T hA) (gB _ (by unfold fT0; decide) (by unfold fT0; decide)) (n45 rfl (by decide)) (mA_ne (by decide)) (mA_ne (by decide))
        · obtain ⟨s1, s2, s3, s4, s5⟩ := rA_S hA
          refine ⟨fun v2 hv2 => ?_, ?_, ?_, ?_, ?_⟩
          · rw [mA_at (by omega)]
            show (up2 (fA S) 195 so (va_up (fA S 195 so) (nI v).toNatClampNeg a2)) 195 so v2 = _
            rw [up2_is, ec, va_up_at, s1 v2 hv2]
            rfl
          · rw [fI_ne (f' := 196) (by decide)]
            exact s2.trans (Eq.symm (n45 rfl (by decide)))
          · rw [fI_ne (f' := 197) (by decide)]
            exact s3.trans (Eq.symm (n45 rfl (by decide)))
          · rw [fI_ne (f' := 198) (by decide)]
            exact s4.trans (Eq.symm (n45 rfl (by decide)))
          · unfold zMs at s5 ⊢
            rw [show (msA (msI t 45 0) 13 (nI v) a2).1 21 = t.1 21 from n45 rfl (by decide), show (msA (msI t 45 0) 13 (nI v) a2).1 22 = t.1 22 from n45 rfl (by decide), show (msA (msI t 45 0) 13 (nI v) a2).1 23 = t.1 23 from n45 rfl (by decide)]
            exact s5
      · rw [ed_at]
        rfl
      · exact Eqf_usI (Eqf_usA Eqf_rfl (Or.inl (by unfold fKp; decide))) (Or.inl (by unfold fKp; decide))
    · refine Or.inr ⟨rfl, fun hz3 hz4 => mm_trans hM hv hz hc (fun h9 => absurd h9 hT) (fun _ => ?_)⟩
      exact ⟨thr_same t 2, fun z => absurd z (by decide), hn sz ns _ hz3 hz4 (ag45 t 2)⟩
  · refine Or.inl ⟨rfl, fun hz3 hz4 => mm_trans0 (Or.inr hc) ?_⟩
    exact ⟨thr_same t 1, fun z => absurd z (by decide), hn sz ns _ hz3 hz4 (ag45 t 1)⟩
  · refine Or.inl ⟨rfl, fun hz3 hz4 => mm_trans0 (Or.inl hz) ?_⟩
    exact ⟨thr_same t 1, fun z => absurd z (by decide), hn sz ns _ hz3 hz4 (ag45 t 1)⟩
theorem si_setPaper (hI : Im lb o so po I) : Si_setPaper lb o I := by
  intro n S t ov a1 a2 a3 h
  obtain ⟨hA, hr, hn, hm⟩ := hI n S t h
  have hB := rA_B hA
  have bad : (v_in a1 40 400 = 0 ∨ v_in a2 1 6 = 0 ∨ v_in a3 0 20000 = 0) → ∀ sz ns : Nat, sPV (szC S + 100, nsC S + 2000) (I n) (w_setPaper a1 a2 a3 t) 1 ov (rsz S sz ns) := by
    intro hc sz ns hz3 hz4 x1 hx1
    have e : x1 = 0 := by
      rw [hx1, if_neg]
      rintro ⟨z1, z2, z3⟩
      rcases hc with hc | hc | hc
      · exact z1 hc
      · exact z2 hc
      · exact z3 hc
    refine i_go1 e ⟨_, fun _ h => h, fun _ => ?_, fun h9 => absurd rfl h9⟩
    exact ⟨thr_same t 1, hn sz ns _ hz3 hz4 (ag45 t 1)⟩
  refine ⟨(szC S + 100, nsC S + 2000), rm_0 hr, a_reqRange rm_1 (fun hc1 hd1 => a_reqRange rm_1 (fun hc2 hd2 => a_reqRange rm_1 (fun hc3 hd3 => ?_) (fun hc sz ns => ⟨rfl, bad (Or.inr (Or.inr hc)) sz ns⟩)) (fun hc sz ns => ⟨rfl, bad (Or.inr (Or.inl hc)) sz ns⟩)) (fun hc sz ns => ⟨rfl, bad (Or.inl hc) sz ns⟩)⟩
  obtain ⟨x, x1, x2, x3⟩ := r_in (a := a1) (x := 40) (y := 400) (by decide) (by decide) hd1
  obtain ⟨y, y1, y2, y3⟩ := r_in (a := a2) (x := 1) (y := 6) (by decide) (by decide) hd2
  obtain ⟨u, u1, u2, u3⟩ := r_in (a := a3) (x := 0) (y := 20000) (by decide) (by decide) hd3
  rw [oG_so hA.2.1]
  refine ⟨hA.1, ne_so hA.2.1, hB.1, fun t7 ht7 => ?_⟩
  subst ht7
  have f1 : fR (usI S 196 so a1) 224 o = some so := hA.2.1
  rw [oG_so f1]
  refine ⟨ne_so f1, hB.1, fun t10 ht10 => ?_⟩
  subst ht10
  have f2 : fR (usI (usI S 196 so a1) 197 so a2) 224 o = some so := hA.2.1
  rw [oG_so f2]
  refine ⟨ne_so f2, hB.1, fun t13 ht13 => ?_⟩
  subst ht13
  refine i_ed hA.2.1 hB.1 ?_
  intro _ _ z1 hz1
  have e1 : ¬ z1 = 0 := by rw [hz1, if_pos ⟨hc1, hc2, hc3⟩]; exact one_ne
  refine i_go0 e1 one_ne one_ne ⟨_, fun _ h => h, fun h9 => absurd h9 one_ne, fun _ t4 ht4 t5 ht5 t6 ht6 => ?_⟩
  subst ht4
  subst ht5
  subst ht6
  have hs : kdC S so ≠ 0 := by rw [hB.1]; decide
  refine ⟨thr_same t 0, hm _ _ ?_ ?_ ?_ (Nat.le_add_right _ _) (Nat.le_add_right _ _)⟩
  · have gB : ∀ P : Nat → Prop, ¬ P 196 → ¬ P 197 → ¬ P 198 → ¬ P 199 → Eqf P S (usI (usI (usI (usI S 196 so a1) 197 so a2) 198 so a3) 199 so (fI (usI (usI (usI S 196 so a1) 197 so a2) 198 so a3) 199 so + 1)) := fun P h1 h2 h3 h4 => Eqf_usI (Eqf_usI (Eqf_usI (Eqf_usI Eqf_rfl (Or.inl h1)) (Or.inl h2)) (Or.inl h3)) (Or.inl h4)
    have m0 : ∀ k, k ≠ 45 → k ≠ 21 → k ≠ 22 → k ≠ 23 → (msI (msI (msI (msI t 45 0) 21 a1) 22 a2) 23 a3).1 k = t.1 k := fun k h1 h2 h3 h4 => by rw [mI_ne h4, mI_ne h3, mI_ne h2, mI_ne h1]
    refine rA_oth hA (gB _ (by unfold fB0; decide) (by unfold fB0; decide) (by unfold fB0; decide) (by unfold fB0; decide)) (gB _ (by decide) (by decide) (by decide) (by decide)) (m0 0 (by decide) (by decide) (by decide) (by decide)) (fun _ _ => rfl) rfl ?_ ?_ ?_
    · exact rP_c hs (rA_P hA) (gB _ (by unfold fP0; decide) (by unfold fP0; decide) (by unfold fP0; decide) (by unfold fP0; decide)) (fun _ _ _ _ _ _ => rfl) (m0 0 (by decide) (by decide) (by decide) (by decide)) rfl (m0 14 (by decide) (by decide) (by decide) (by decide)) rfl rfl rfl rfl rfl rfl
    · exact rT_c hs (rA_T hA) (gB _ (by unfold fT0; decide) (by unfold fT0; decide) (by unfold fT0; decide) (by unfold fT0; decide)) (m0 0 (by decide) (by decide) (by decide) (by decide)) rfl rfl
    · obtain ⟨s1, -, -, -, -⟩ := rA_S hA
      refine ⟨s1, ?_, ?_, ?_, ⟨x, x1, x2, ?_⟩, ⟨y, y1, y2, ?_⟩, ⟨u, u2, ?_⟩⟩
      · rw [fI_ne (f' := 196) (by decide), fI_ne (f' := 196) (by decide), fI_ne (f' := 196) (by decide), fI_at, if_pos rfl, mI_ne (by decide), mI_ne (by decide), mI_at]
      · rw [fI_ne (f' := 197) (by decide), fI_ne (f' := 197) (by decide), fI_at, if_pos rfl, mI_ne (by decide), mI_at]
      · rw [fI_ne (f' := 198) (by decide), fI_at, if_pos rfl, mI_at]
      · rw [mI_ne (by decide), mI_ne (by decide), mI_at]
        exact x3
      · rw [mI_ne (by decide), mI_at]
        exact y3
      · rw [mI_at]
        exact u3
  · rw [ed_at, fI_ne (by decide), fI_ne (by decide), fI_ne (by decide)]
  · exact Eqf_usI (Eqf_usI (Eqf_usI (Eqf_usI Eqf_rfl (Or.inl (by unfold fKp; decide))) (Or.inl (by unfold fKp; decide))) (Or.inl (by unfold fKp; decide))) (Or.inl (by unfold fKp; decide))
theorem si_dropPhrase (hI : Im lb o so po I) : Si_dropPhrase lb o I := by
  intro n S t ov a1 h
  obtain ⟨hA, hr, hn, hm⟩ := hI n S t h
  have hB := rA_B hA
  have hM := rA_M hA
  have hP := rA_P hA
  have h20 := hP.1
  have e14 : mgI t 14 = nI (npS S so) := hP.2.1
  have hout := n_out (a := a1) (n := npS S so) (by omega)
  refine ⟨(szC S + 100, nsC S + 2000), rm_0 hr, hA.1, ne_so hA.2.1, by rw [oG_so hA.2.1]; exact hB.1, ?_⟩
  rw [oG_so hA.2.1]
  refine i_reqIdx rm_1 (fun hc => ?_) (fun hc sz ns => ?_)
  · have hc2 : ¬ a1 < 0 ∧ a1 < nI (npS S so) := ⟨fun z => hc (Or.inl z), Classical.byContradiction fun z => hc (Or.inr z)⟩
    obtain ⟨k, hk, ek⟩ := n_ofNN (by omega) hc2.1 hc2.2
    have hz : ¬ v_in a1 0 (mgI t 14 - 1) = 0 := by
      rw [e14]
      exact fun z => hc (hout.mpr z)
    subst ek
    obtain ⟨q1, q2, q3⟩ := cc_ph hP hk
    obtain ⟨k1, k2, k3, k4, k5, k6, k7, k8, k9⟩ := q3
    have hk31 : k < 2147483648 := by omega
    rw [oG_so hA.2.1, q2]
    refine ⟨ne_so hA.2.1, hB.1, q1, k1, fun x9 hx9 t10 ht10 => ?_⟩
    subst ht10
    refine i_ed hA.2.1 hB.1 ?_
    rw [k5] at hx9
    have g9 : gb x9 := by rw [hx9]; exact gb_if
    have key : ∀ Q : Int32 → MS → Prop, Q x9 (msA (msI t 45 0) 20 (nI k) 1) → w_dropPhrase (nI k) t Q := by
      intro Q hQ
      refine i_go0 hz one_ne one_ne ⟨fun h9 => absurd h9 one_ne, fun _ => ⟨vp_nI (n := 20) (by omega) (by decide), fun x3 hx3 => ⟨vp_nI (n := 20) (by omega) (by decide), fun t5 ht5 => ?_⟩⟩⟩
      subst ht5
      rw [Ag_A (ag45 t 0) (f := 20) (i := k) (by decide) hk31, ← hx9] at hx3
      rw [hx3]
      exact ⟨g9, hQ⟩
    have hs : kdC S so ≠ 0 := by rw [hB.1]; decide
    have hfin : I n (usI (usI S 133 (phL S so k) 1) 199 so (fI (usI S 133 (phL S so k) 1) 199 so + 1)) (msA (msI t 45 0) 20 (nI k) 1) := by
      refine hm _ _ ?_ ?_ ?_ (Nat.le_add_right _ _) (Nat.le_add_right _ _)
      · have gB : ∀ P : Nat → Prop, ¬ P 133 → ¬ P 199 → Eqf P S (usI (usI S 133 (phL S so k) 1) 199 so (fI (usI S 133 (phL S so k) 1) 199 so + 1)) := fun P h1 h2 => Eqf_usI (Eqf_usI Eqf_rfl (Or.inl h1)) (Or.inl h2)
        refine rA_oth hA (gB _ (by unfold fB0; decide) (by unfold fB0; decide)) (gB _ (by decide) (by decide)) (n45 rfl (by decide)) (fun k hk => mA_ne (by omega)) (congrFun (mA_ne (by decide)) 0) ?_ ?_ ?_
        · obtain ⟨p1, p2, p3, p4, p5, p6⟩ := hP
          refine ⟨p1, (show (msI t 45 0).1 14 = t.1 14 from n45 rfl (by decide)).trans p2, p3, fun k2 hk2 => ?_, p5, fun k2 hk2 hk3 => ?_⟩
          · obtain ⟨c1, c2, c3, c4, c5, c6, c7, c8, c9⟩ := p4 k2 hk2
            have e133 : fI (usI (usI S 133 (phL S so k) 1) 199 so (fI (usI S 133 (phL S so k) 1) 199 so + 1)) 133 (phL S so k2) = if k2 = k then 1 else t.2 20 k2 := by
              rw [fI_ne (f' := 133) (by decide), fI_at]
              by_cases e : k2 = k
              · rw [if_pos (by rw [e]), if_pos e]
              · rw [if_neg (fun z => e (p5 k2 k hk2 hk z)), if_neg e]
                exact c5
            have e20 : (msA (msI t 45 0) 20 (nI k) 1).2 20 k2 = if k2 = k then 1 else t.2 20 k2 := mA_at hk31
            refine ⟨c1, ?_, ?_, ?_, e133.trans e20.symm, ?_, c7, c8, fun z => ?_⟩
            · rw [mA_ne (f' := 15) (by decide)]
              exact c2
            · rw [mA_ne (f' := 16) (by decide)]
              exact c3
            · rw [mA_ne (f' := 18) (by decide)]
              exact c4
            · rw [e20]
              by_cases e : k2 = k
              · rw [if_pos e]; exact Or.inr rfl
              · rw [if_neg e]; exact c6
            · rw [e20] at z
              have ne : ¬ k2 = k := fun e => by
                rw [if_pos e] at z
                exact one_ne z
              rw [if_neg ne] at z
              have c10 := c9 z
              unfold rPe at c10 ⊢
              rw [mA_ne (f' := 15) (by decide), mA_ne (f' := 16) (by decide), mA_ne (f' := 17) (by decide), mA_ne (f' := 18) (by decide), mA_ne (f' := 19) (by decide)]
              exact c10
          · have e20 : (msA (msI t 45 0) 20 (nI k) 1).2 20 k2 = if k2 = k then 1 else t.2 20 k2 := mA_at hk31
            rw [e20, if_neg (fun z => by subst z; exact absurd hk (Nat.not_lt.mpr hk2))]
            exact p6 k2 hk2 hk3
        · exact rT_c hs (rA_T hA) (gB _ (by unfold fT0; decide) (by unfold fT0; decide)) (n45 rfl (by decide)) (mA_ne (by decide)) (mA_ne (by decide))
        · exact rS_c hs (rA_S hA) (gB _ (by unfold fS0; decide) (by unfold fS0; decide)) (mA_ne (by decide)) (n45 rfl (by decide)) (n45 rfl (by decide)) (n45 rfl (by decide))
      · rw [ed_at, fI_ne (by decide)]
      · exact Eqf_usI (Eqf_usI Eqf_rfl (Or.inl (by unfold fKp; decide))) (Or.inl (by unfold fKp; decide))
    refine ⟨g9, fun z => ?_, fun z => ?_⟩
    · intro _ _
      exact key _ ⟨thr_same t 0, fun _ => (gbL g9).1 z, hfin⟩
    · intro _ _
      exact key _ ⟨thr_same t 0, fun _ => (gbL g9).2 z, hfin⟩
  · refine ⟨rfl, fun hz3 hz4 => i_go1 (by rw [e14]; exact hout.mp hc) ⟨fun _ => ?_, fun h9 => absurd rfl h9⟩⟩
    exact ⟨thr_same t 1, fun z => absurd z (by decide), hn sz ns _ hz3 hz4 (ag45 t 1)⟩
end MI
