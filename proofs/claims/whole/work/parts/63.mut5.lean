/-! MUTATORS: metres -/
def zMx (A : MS) (i : Nat) : Nat → Nat
  | 0 => 0
  | k + 1 => if zMx A i k < zS A k i (zE A k i) then zS A k i (zE A k i) else zMx A i k
section MJ
variable {S : CS} {A t : MS} {o so po : Nat}
theorem zMx_le {i x : Nat} : ∀ k, zMx A i k ≤ x ↔ ∀ v, v < k → zS A v i (zE A v i) ≤ x := by
  intro k
  induction k with
  | zero => exact ⟨fun _ v hv => absurd hv (Nat.not_lt_zero _), fun _ => Nat.zero_le _⟩
  | succ k ih =>
    unfold zMx
    by_cases e : zMx A i k < zS A k i (zE A k i)
    · rw [if_pos e]
      refine ⟨fun h v hv => ?_, fun h => h k (by omega)⟩
      by_cases e2 : v = k
      · rw [e2]; exact h
      · exact ih.mp (by omega) v (by omega)
    · rw [if_neg e]
      refine ⟨fun h v hv => ?_, fun h => ih.mpr (fun v hv => h v (by omega))⟩
      by_cases e2 : v = k
      · rw [e2]; omega
      · exact ih.mp h v (by omega)
theorem cc_most (h : rB S A so) (w : zM A) {B : Nat × Nat} {Q : Int32 → CS → Prop} {X : String → CS → Prop} {i : Nat} (hi : i < zN A) (hQ : Q (nI (zMx A i 4)) S) : w_X2_mostTicks B (mrL S so i) S Q X := by
  obtain ⟨b1, b2, b3, b4⟩ := cc_bar h w hi
  have hL := z_len w hi
  refine lp_seq (fun k => (nI (zMx A i k), nI k)) 4 ?_ ?_ 0 (by decide)
  · intro k hk K hK
    obtain ⟨r0, r1, -⟩ := cc_row h w hi hk
    have ek : (nI k).toNatClampNeg = k := nI_clamp (by omega)
    have e177 : fI S 177 (oG (fQ S 83 (mrL S so i) k)) = nI (zS A k i (zE A k i)) := cc_ticks h w hi hk
    have h1 : zMx A i k ≤ zL A i := (zMx_le k).mpr (fun v hv => z_sL w hi (by omega) (Nat.le_refl _))
    have h2 : zS A k i (zE A k i) ≤ zL A i := z_sL w hi hk (Nat.le_refl _)
    refine ⟨fun h9 => absurd h9 (nI_ge (a := k) (b := 4) hk (by decide)), fun _ => ?_⟩
    dsimp only
    rw [ek, e177]
    refine ⟨b4, vp_nI (n := 4) hk (by decide), r0, r1, fun x5 hx5 => ?_⟩
    have e5 : x5 = nI (zMx A i (k + 1)) := by
      rw [hx5]
      unfold mMax
      show _ = nI (if zMx A i k < zS A k i (zE A k i) then zS A k i (zE A k i) else zMx A i k)
      by_cases e : zMx A i k < zS A k i (zE A k i)
      · rw [if_pos e, if_pos (nI_lt e (by omega))]
      · rw [if_neg e, if_neg (nI_nlt (by omega) (by omega))]
    rw [e5, nI_1]
    exact hK
  · intro K
    exact ⟨fun _ => hQ, fun h9 => absurd (nI_le (Nat.le_refl 4) (by decide)) h9⟩
theorem metre_ok {a b : Int32} : (¬ v_isMetre a b = 0 ↔ ¬ v_in a 1 9 = 0 ∧ (b = 2 ∨ b = 4 ∨ b = 8)) := by
  unfold v_isMetre
  by_cases e : ¬ v_in a 1 9 = 0 ∧ (b = 2 ∨ b = 4 ∨ b = 8)
  · rw [if_pos e]
    exact ⟨fun _ => e, fun _ => one_ne⟩
  · rw [if_neg e]
    exact ⟨fun z => absurd rfl z, fun z => absurd z e⟩
theorem a_reqMetre {B : Nat × Nat} {a b : Int32} {Q : CS → Prop} {X : String → CS → Prop} (hr : szC S + 1 ≤ B.1 ∧ nsC S + 6 ≤ B.2) (h1 : ∀ c u : Nat, 1 ≤ c → c ≤ 9 → (u = 2 ∨ u = 4 ∨ u = 8) → a = nI c → b = nI u → ¬ v_isMetre a b = 0 → Q S) (h2 : v_isMetre a b = 0 → ∀ sz ns : Nat, X "java/lang/IllegalArgumentException" (rsz S sz ns)) : w_X11_requireMetre B a b S Q X := by
  refine a_reqRange hr (fun hc hd => ⟨fun e => ?_, fun e => ⟨hr, h2 (Classical.byContradiction fun z => e (metre_ok.mp z).2)⟩⟩) (fun hc => h2 (Classical.byContradiction fun z => (metre_ok.mp z).1 hc))
  obtain ⟨c, c1, c2, c3⟩ := r_in (a := a) (x := 1) (y := 9) (by decide) (by decide) hd
  rcases e with e | e | e
  · exact h1 c 2 c1 c2 (Or.inl rfl) c3 e (metre_ok.mpr ⟨hc, Or.inl e⟩)
  · exact h1 c 4 c1 c2 (Or.inr (Or.inl rfl)) c3 e (metre_ok.mpr ⟨hc, Or.inr (Or.inl e)⟩)
  · exact h1 c 8 c1 c2 (Or.inr (Or.inr rfl)) c3 e (metre_ok.mpr ⟨hc, Or.inr (Or.inr e)⟩)
theorem len_nI {c u : Nat} (h2 : c ≤ 9) (hu : u = 2 ∨ u = 4 ∨ u = 8) : (96 * nI c) / nI u = nI (96 * c / u) := by
  rw [show (96 : Int32) = nI 96 from rfl, pk_mul, pk_div (by omega) (by omega) (by omega)]
theorem mm_metre (w : zM t) {Q : Int32 → MS → Prop} {i c u : Nat} (hi : i < zN t) (h1 : 1 ≤ c) (h2 : c ≤ 9) (hu : u = 2 ∨ u = 4 ∨ u = 8) (hz : ¬ v_isBar (nI i) t = 0) (hc : ¬ v_isMetre (nI c) (nI u) = 0) (hQ : zMx t i 4 ≤ 96 * c / u → Q (nI (zL t i)) (msA (msA (msI t 45 0) 1 (nI i) (nI c)) 2 (nI i) (nI u))) (hN : ¬ zMx t i 4 ≤ 96 * c / u → Q 0 (msI t 45 3)) : w_setMetre (nI i) (nI c) (nI u) t Q := by
  have hn := w.2.1
  have hL := z_len w hi
  have hu0 : ¬ nI u = 0 := nI_ne0 (by omega) (by omega)
  have hq : 96 * c / u ≤ 432 := by rcases hu with hu | hu | hu <;> rw [hu] <;> omega
  intro x1 hx1 x2 hx2 x3 hx3
  subst hx1
  subst hx2
  rw [if_pos ⟨hz, hc⟩] at hx3
  subst hx3
  refine lp_for (fun k z => (z = (1, nI k, t) ∧ ∀ v, v < k → zS t v i (zE t v i) ≤ 96 * c / u) ∨ (z.1 = 0 ∧ z.2.2 = t ∧ ¬ zMx t i 4 ≤ 96 * c / u)) 4 ?_ ?_ 0 (Nat.zero_le _) (1, 0, t) (Or.inl ⟨rfl, fun v hv => absurd hv (Nat.not_lt_zero _)⟩)
  · intro k hk K z hz2 hK
    rcases hz2 with ⟨hz2, hok⟩ | ⟨hz2, hz3, hno⟩
    · subst hz2
      refine ⟨fun h9 => h9.elim (fun h9 => absurd h9 (nI_ge (a := k) (b := 4) hk (by decide))) (fun h9 => absurd h9 one_ne), fun _ => ?_⟩
      refine mm_all w (Ag_rfl t) hi hk ⟨hu0, fun x13 hx13 => ?_⟩
      rw [len_nI h2 hu] at hx13
      rw [nI_1]
      have hs := z_sL w hi hk (Nat.le_refl (zE t k i))
      refine hK _ ?_
      by_cases e : zS t k i (zE t k i) ≤ 96 * c / u
      · rw [if_pos (nI_nlt e (by omega))] at hx13
        rw [hx13]
        refine Or.inl ⟨rfl, fun v hv => ?_⟩
        by_cases e2 : v = k
        · rw [e2]; exact e
        · exact hok v (by omega)
      · rw [if_neg (fun z => z (nI_lt (by omega) (by omega)))] at hx13
        rw [hx13]
        exact Or.inr ⟨rfl, rfl, fun z => e ((zMx_le 4).mp z k hk)⟩
    · refine ⟨fun _ => ?_, fun h9 => absurd (Or.inr hz2) h9⟩
      rw [hz3]
      exact i_go3 hz hc hz2 ⟨fun _ => hN hno, fun h9 => absurd rfl h9⟩
  · intro K z hz2
    rcases hz2 with ⟨hz2, hok⟩ | ⟨hz2, hz3, hno⟩
    · subst hz2
      refine ⟨fun _ => i_go0 hz hc one_ne ⟨fun h9 => absurd h9 one_ne, fun _ => ?_⟩, fun h9 => absurd (Or.inl (nI_le (Nat.le_refl 4) (by decide))) h9⟩
      obtain ⟨l1, l2⟩ := mm_len w (ag45 t 0) hi
      refine ⟨l1, fun x6 hx6 => ⟨vp_nI (n := 24) (by omega) (by decide), fun t8 ht8 => ⟨vp_nI (n := 24) (by omega) (by decide), fun t10 ht10 => ?_⟩⟩⟩
      subst ht8
      subst ht10
      rw [hx6, l2]
      exact hQ ((zMx_le 4).mpr hok)
    · refine ⟨fun _ => ?_, fun h9 => absurd (Or.inr hz2) h9⟩
      rw [hz3]
      exact i_go3 hz hc hz2 ⟨fun _ => hN hno, fun h9 => absurd rfl h9⟩
theorem mm_metre0 {Q : Int32 → MS → Prop} {a b c : Int32} (h1 : v_isBar a t = 0 → Q 0 (msI t 45 1)) (h2 : ¬ v_isBar a t = 0 → Q 0 (msI t 45 2)) (hz : v_isBar a t = 0 ∨ v_isMetre b c = 0) : w_setMetre a b c t Q := by
  intro x1 hx1 x2 hx2 x3 hx3
  have e : x3 = 0 := by
    rw [hx3, hx1, hx2, if_neg]
    exact fun z => hz.elim z.1 z.2
  subst e
  refine ⟨1, fun _ => ?_, fun h9 => absurd (Or.inr rfl) h9⟩
  by_cases e1 : v_isBar a t = 0
  · exact i_go1 (hx1.trans e1) ⟨fun _ => h1 e1, fun h9 => absurd rfl h9⟩
  · have e2 := hz.resolve_left e1
    exact i_go2 (by rw [hx1]; exact e1) (hx2.trans e2) ⟨fun _ => h2 e1, fun h9 => absurd rfl h9⟩
end MJ
section MK
variable {lb : Nat × Nat} {o so po : Nat} {I : Nat → CS → MS → Prop}
theorem si_setMetre (hI : Im lb o so po I) : Si_setMetre lb o I := by
  intro n S t ov a1 a2 a3 h
  obtain ⟨hA, hr, hn, hm⟩ := hI n S t h
  have hB := rA_B hA
  have hM := rA_M hA
  have hn24 := hM.2.1
  refine ⟨(szC S + 100, nsC S + 2000), rm_0 hr, hA.1, a_B hA rm_1 (fun i hi ei hz => a_reqMetre rm_1 (fun c u c1 c2 hu ec eu hmt => ?_) (fun hc sz ns => ?_)) (fun hz sz ns => ?_)⟩
  · subst ei
    subst ec
    subst eu
    obtain ⟨b1, b2, b3, b4⟩ := cc_bar hB hM hi
    obtain ⟨l1, l2⟩ := cc_len hB hM hi
    have em : v_X9_measure so (nI i) S = mrL S so i := b3
    have hi31 : i < 2147483648 := by omega
    have hu0 : 0 < u ∧ u ≤ 8 := by omega
    have hq : 96 * c / u ≤ 432 := by rcases hu with hu | hu | hu <;> rw [hu] <;> omega
    have etk : v_X2_ticksOf (nI c) (nI u) = nI (96 * c / u) := by
      unfold v_X2_ticksOf
      rw [if_neg (nI_nle hu0.1 (by omega)), len_nI c2 hu]
    have hmx : zMx t i 4 ≤ zL t i := (zMx_le 4).mpr (fun v hv => z_sL hM hi (by omega) (Nat.le_refl _))
    have hL := z_len hM hi
    rw [oG_so hA.2.1, em, etk]
    refine ⟨ne_so hA.2.1, b1, ⟨b1, b2, by rw [b3]; exact b4⟩, b4, cc_most hB hM hi ⟨fun _ => nI_ne0 hu0.1 (by omega), fun e => ?_, fun e => ⟨rm_1, fun sz ns => ?_⟩⟩⟩
    · have e9 : zMx t i 4 ≤ 96 * c / u := (nI_leI (by omega) (by omega)).mp e
      rw [l2]
      refine ⟨l1, fun x11 hx11 t12 ht12 t13 ht13 => ?_⟩
      subst ht12
      subst ht13
      refine i_ed hA.2.1 b1 ?_
      intro _ _
      refine mm_metre hM hi c1 c2 hu hz hmt (fun _ => ?_) (fun z => absurd e9 z)
      refine ⟨thr_same t 0, fun _ => by rw [hx11]; rfl, hm _ _ ?_ ?_ ?_ (Nat.le_add_right _ _) (Nat.le_add_right _ _)⟩
      · refine rA_val hA (Eqf_usI (Eqf_usI (Eqf_usI Eqf_rfl (Or.inl (by unfold fOt fP0 fT0 fS0; decide))) (Or.inl (by unfold fOt fP0 fT0 fS0; decide))) (Or.inl (by unfold fOt fP0 fT0 fS0; decide))) ?_ ?_ (fun _ _ _ _ _ _ => rfl) (fun k hk => n45 rfl (by omega)) (fun k _ hk => by rw [mA_ne (by omega), mA_ne (by omega)]; rfl) (zZ_k (rA_Z hA) (n45 rfl (by decide)) (by rw [mA_ne (by decide), mA_ne (by decide)]; rfl) (by rw [mA_ne (by decide), mA_ne (by decide)]; rfl) (by rw [mA_ne (by decide), mA_ne (by decide)]; rfl))
        · refine rB_upd hB rfl rfl rfl rfl rfl rfl (n45 rfl (by decide)) (by rw [mA_ne (by decide), mA_ne (by decide)]; rfl) (by rw [mA_ne (by decide), mA_ne (by decide)]; rfl) (by rw [mA_ne (by decide), mA_ne (by decide)]; rfl) ?_ ?_ ?_ ?_ ?_ ?_
          · rw [fI_ne (by decide), fI_ne (by decide), fI_ne (by decide)]
          · rw [fI_ne (by decide), fI_ne (by decide), fI_ne (by decide)]
          · rw [fI_ne (by decide), fI_ne (by decide), fI_ne (by decide)]
          · intro k hk
            obtain ⟨d1, d2, d3, d4, d5⟩ := rB_hb hB k hk
            rw [fI_ne (f' := 80) (by decide), fI_ne (f' := 80) (by decide), fI_at, fI_ne (f' := 81) (by decide), fI_at, fI_ne (f' := 81) (by decide), fI_ne (f' := 82) (by decide), fI_ne (f' := 82) (by decide), fI_ne (f' := 82) (by decide), mA_ne (f' := 1) (by decide), mA_at hi31, mA_at hi31, mA_ne (f' := 2) (by decide), mA_ne (f' := 3) (by decide), mA_ne (f' := 3) (by decide)]
            by_cases e8 : k = i
            · rw [if_pos ((e_mr hB hM hk hi).mpr e8), if_pos e8, if_pos ((e_mr hB hM hk hi).mpr e8), if_pos e8]
              refine ⟨rfl, rfl, d3, ⟨c, c1, c2, rfl⟩, ?_⟩
              rcases hu with hu | hu | hu <;> rw [hu]
              · exact Or.inl rfl
              · exact Or.inr (Or.inl rfl)
              · exact Or.inr (Or.inr rfl)
            · rw [if_neg (fun z => e8 ((e_mr hB hM hk hi).mp z)), if_neg e8, if_neg (fun z => e8 ((e_mr hB hM hk hi).mp z)), if_neg e8]
              exact ⟨d1, d2, d3, d4, d5⟩
          · rw [fI_ne (f' := 178) (by decide), fI_ne (f' := 178) (by decide), fI_ne (f' := 178) (by decide), mA_ne (f' := 7) (by decide), mA_ne (f' := 7) (by decide)]
            exact rB_hr hB
          · rw [fI_ne (f' := 50) (by decide), fI_ne (f' := 50) (by decide), fI_ne (f' := 50) (by decide), fI_ne (f' := 51) (by decide), fI_ne (f' := 51) (by decide), fI_ne (f' := 51) (by decide), fI_ne (f' := 52) (by decide), fI_ne (f' := 52) (by decide), fI_ne (f' := 52) (by decide), mA_ne (f' := 8) (by decide), mA_ne (f' := 8) (by decide), mA_ne (f' := 11) (by decide), mA_ne (f' := 11) (by decide), mA_ne (f' := 12) (by decide), mA_ne (f' := 12) (by decide)]
            exact rB_he hB
        · have eB : ∀ k, zB (msA (msA (msI t 45 0) 1 (nI i) (nI c)) 2 (nI i) (nI u)) k = if k = i then c else zB t k := fun k => by
            unfold zB
            rw [mA_ne (f' := 1) (by decide), mA_at hi31]
            by_cases e8 : k = i
            · rw [if_pos e8, if_pos e8, aN_nI (by omega)]
            · rw [if_neg e8, if_neg e8]
              rfl
          have eU : ∀ k, zU (msA (msA (msI t 45 0) 1 (nI i) (nI c)) 2 (nI i) (nI u)) k = if k = i then u else zU t k := fun k => by
            unfold zU
            rw [mA_at hi31, mA_ne (f' := 2) (by decide)]
            by_cases e8 : k = i
            · rw [if_pos e8, if_pos e8, aN_nI (by omega)]
            · rw [if_neg e8, if_neg e8]
              rfl
          refine zM_upd hM (n45 rfl (by decide)) (by rw [mA_ne (by decide), mA_ne (by decide)]; rfl) (by rw [mA_ne (by decide), mA_ne (by decide)]; rfl) (by rw [mA_ne (by decide), mA_ne (by decide)]; rfl) ?_ ?_ ?_
          · intro k hk
            obtain ⟨d1, d2, d3⟩ := zM_hb hM k hk
            rw [eB, eU, mA_ne (f' := 1) (by decide), mA_at hi31, mA_at hi31, mA_ne (f' := 2) (by decide), mA_ne (f' := 3) (by decide), mA_ne (f' := 3) (by decide)]
            by_cases e8 : k = i
            · rw [if_pos e8, if_pos e8, if_pos e8, if_pos e8]
              exact ⟨⟨rfl, c1, c2⟩, ⟨rfl, hu⟩, d3⟩
            · rw [if_neg e8, if_neg e8, if_neg e8, if_neg e8]
              exact ⟨d1, d2, d3⟩
          · intro v k hv hk
            obtain ⟨d1, d2⟩ := zM_hr hM v k hv hk
            unfold zL
            rw [eB, eU, mA_ne (f' := 7) (by decide), mA_ne (f' := 7) (by decide)]
            refine ⟨d1, ?_⟩
            by_cases e8 : k = i
            · rw [if_pos e8, if_pos e8, e8]
              exact (zMx_le 4).mp e9 v hv
            · rw [if_neg e8, if_neg e8]
              exact d2
          · rw [mA_ne (f' := 8) (by decide), mA_ne (f' := 8) (by decide), mA_ne (f' := 12) (by decide), mA_ne (f' := 12) (by decide)]
            exact zM_he hM
      · rw [ed_at, fI_ne (by decide), fI_ne (by decide)]
      · exact Eqf_usI (Eqf_usI (Eqf_usI Eqf_rfl (Or.inl (by unfold fKp; decide))) (Or.inl (by unfold fKp; decide))) (Or.inl (by unfold fKp; decide))
    · have e9 : ¬ zMx t i 4 ≤ 96 * c / u := fun z => e ((nI_leI (by omega) (by omega)).mpr z)
      refine Or.inr (Or.inr ⟨rfl, fun hz3 hz4 => mm_metre hM hi c1 c2 hu hz hmt (fun z => absurd z e9) (fun _ => ?_)⟩)
      exact ⟨thr_same t 3, fun z => absurd z (by decide), hn sz ns _ hz3 hz4 (ag45 t 3)⟩
  · refine Or.inr (Or.inl ⟨rfl, fun hz3 hz4 => mm_metre0 (fun z => absurd z hz) (fun _ => ?_) (Or.inr hc)⟩)
    exact ⟨thr_same t 2, fun z => absurd z (by decide), hn sz ns _ hz3 hz4 (ag45 t 2)⟩
  · refine Or.inl ⟨rfl, fun hz3 hz4 => mm_metre0 (fun _ => ?_) (fun z => absurd hz z) (Or.inl hz)⟩
    exact ⟨thr_same t 1, fun z => absurd z (by decide), hn sz ns _ hz3 hz4 (ag45 t 1)⟩
end MK
