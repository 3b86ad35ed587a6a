/-! A BAR THAT IS RIGHT -/
def zRun (A : MS) (v i : Nat) : Nat → Nat
  | 0 => 0
  | k + 1 => if A.2 10 (zp v i k) = 2 then zRun A v i k + zK A v i k else 0
def zOk (A : MS) (v i : Nat) : Nat → Prop
  | 0 => True
  | k + 1 => zOk A v i k ∧ (A.2 10 (zp v i k) = 2 ∨ zRun A v i k % 6 = 0)
def zRight (A : MS) (v i : Nat) : Prop := (zE A v i = 0 ∨ zS A v i (zE A v i) = zL A i) ∧ zOk A v i (zE A v i) ∧ zRun A v i (zE A v i) % 6 = 0
section RF
variable {A t : MS} {S : CS} {so : Nat}
theorem zRun_le (w : zM A) {v i : Nat} (hi : i < zN A) (hv : v < 4) : ∀ k, k ≤ zE A v i → zRun A v i k ≤ zS A v i k := by
  intro k
  induction k with
  | zero => intro _; exact Nat.le_refl _
  | succ k ih =>
    intro hk
    have g := ih (by omega)
    show (if A.2 10 (zp v i k) = 2 then zRun A v i k + zK A v i k else 0) ≤ zS A v i k + zK A v i k
    by_cases e : A.2 10 (zp v i k) = 2
    · rw [if_pos e]; omega
    · rw [if_neg e]; omega
theorem zOk_mono {v i a b : Nat} (hab : a ≤ b) (h : zOk A v i b) : zOk A v i a := by
  induction b with
  | zero => rw [show a = 0 by omega]; exact h
  | succ b ih =>
    by_cases h9 : a = b + 1
    · rw [h9]; exact h
    · exact ih (by omega) h.1
theorem rem6 {x : Nat} (hx : x < 100000) : mRem (nI x) 6 = nI (x % 6) := pk_rem (a := x) (d := 6) (by omega) (by decide) (by decide)
theorem rem6_0 {x : Nat} (hx : x < 100000) : mRem (nI x) 6 = 0 ↔ x % 6 = 0 := by
  rw [rem6 hx]
  exact nI_eq (b := 0) (by omega) (by decide)
theorem cc_whole (h : rB S A so) (w : zM A) {B : Nat × Nat} {Q : Int32 → CS → Prop} {X : String → CS → Prop} {v i : Nat} (hi : i < zN A) (hv : v < 4) (h1 : zOk A v i (zE A v i) ∧ zRun A v i (zE A v i) % 6 = 0 → Q 1 S) (h0 : ¬ (zOk A v i (zE A v i) ∧ zRun A v i (zE A v i) % 6 = 0) → Q 0 S) : w_X8_hasWholeTriplets B (rwL S so v i) S Q X := by
  obtain ⟨r1, r2, r3⟩ := cc_rw h w hi hv
  have he := (z_r w hi hv).1
  have hl : nI (fL S 176 (rwL S so v i)).length = nI (zE A v i) := congrArg nI (cc_e h w hi hv)
  refine lp_for (fun k z => z = (nI (zRun A v i k), nI k) ∧ zOk A v i k) (zE A v i) ?_ ?_ 0 (Nat.zero_le _) (0, 0) ⟨rfl, trivial⟩
  · intro k hk K z hz hK
    obtain ⟨hz, ho⟩ := hz
    subst hz
    obtain ⟨q1, q2, q3⟩ := cc_ev h w hi hv hk
    have hr := zRun_le w hi hv k (by omega)
    have hs := z_s w hi hv k (by omega)
    unfold w_X8_hasWholeTriplets_L4
    rw [hl]
    refine ⟨r3, fun h9 => absurd h9 (nI_ge hk (by omega)), fun _ => ⟨q1, by rw [q2]; exact q3.1, fun x => K (x, nI k + 1), fun _ h => h, ?_, ?_⟩⟩
    · intro e x hx
      dsimp only at e hx ⊢
      rw [q2, q3.2.2.1] at e
      rw [q2, q3.2.2.2.2.2.1, (z_k w hi hv hk).1, nI_add] at hx
      rw [hx, nI_1]
      refine hK _ ⟨?_, ho, Or.inl e⟩
      show _ = (nI (if A.2 10 (zp v i k) = 2 then zRun A v i k + zK A v i k else 0), _)
      rw [if_pos e]
    · intro e
      dsimp only at e ⊢
      rw [q2, q3.2.2.1] at e
      rw [rem6_0 (by omega)]
      refine ⟨fun e6 => ?_, fun e6 => h0 (fun z => ?_)⟩
      · rw [nI_1]
        refine hK _ ⟨?_, ho, Or.inr e6⟩
        show _ = (nI (if A.2 10 (zp v i k) = 2 then zRun A v i k + zK A v i k else 0), _)
        rw [if_neg e]
        rfl
      · have g := (zOk_mono (a := k + 1) hk z.1).2
        rcases g with g | g
        · exact e g
        · exact e6 g
  · intro K z hz
    obtain ⟨hz, ho⟩ := hz
    subst hz
    have hr := zRun_le w hi hv (zE A v i) (Nat.le_refl _)
    have hs := z_s w hi hv (zE A v i) (Nat.le_refl _)
    unfold w_X8_hasWholeTriplets_L4
    rw [hl]
    refine ⟨r3, fun _ x hx => ?_, fun h9 => absurd (nI_le (Nat.le_refl _) (by omega)) h9⟩
    dsimp only at hx
    by_cases e6 : zRun A v i (zE A v i) % 6 = 0
    · rw [if_pos ((rem6_0 (by omega)).mpr e6)] at hx
      subst hx
      exact ⟨Or.inr rfl, h1 ⟨ho, e6⟩⟩
    · rw [if_neg (fun z => e6 ((rem6_0 (by omega)).mp z))] at hx
      subst hx
      exact ⟨Or.inl rfl, h0 (fun z => e6 z.2)⟩
theorem cc_right (h : rB S A so) (w : zM A) {B : Nat × Nat} {Q : Int32 → CS → Prop} {X : String → CS → Prop} {v i : Nat} (hi : i < zN A) (hv : v < 4) (h1 : zRight A v i → Q 1 S) (h0 : ¬ zRight A v i → Q 0 S) : w_X9_isRightBar B so (nI v) (nI i) S Q X := by
  obtain ⟨r1, r2, r3⟩ := cc_rw h w hi hv
  obtain ⟨k1, k2⟩ := cc_left h w hi hv
  have he := (z_r w hi hv).1
  have hl : (fL S 176 (rwL S so v i)).length = zE A v i := cc_e h w hi hv
  have hL := z_len w hi
  have hsL := z_sL w hi hv (Nat.le_refl _)
  unfold w_X9_isRightBar v_X8_isEmpty d_X8_isEmpty
  rw [r2, hl, k2]
  refine ⟨h.1, r1, r3, ⟨r3, by omega⟩, fun x S' => S' = S ∧ ((x = 1 ∧ zRight A v i) ∨ (x = 0 ∧ ¬ zRight A v i)), ?_, fun S' => S' = S ∧ zRight A v i, ?_, ?_, ?_⟩
  · intro x S' hx
    obtain ⟨rfl, ⟨rfl, hx⟩ | ⟨rfl, hx⟩⟩ := hx
    · exact ⟨Or.inr rfl, h1 hx⟩
    · exact ⟨Or.inl rfl, h0 hx⟩
  · exact fun S' hx => ⟨hx.1, Or.inl ⟨rfl, hx.2⟩⟩
  · intro e
    have ne : ¬ zE A v i = 0 := fun z => by
      rw [if_pos z] at e
      exact one_ne e
    refine ⟨k1, fun S' => S' = S ∧ ¬ zRight A v i, fun S' hx => ⟨hx.1, Or.inr ⟨rfl, hx.2⟩⟩, fun e0 => ?_, fun e0 => ⟨rfl, fun z => ?_⟩⟩
    · have e1 : zS A v i (zE A v i) = zL A i := by
        have g := (nI_eq (a := zL A i - zS A v i (zE A v i)) (b := 0) (by omega) (by decide)).mp e0
        omega
      refine cc_whole h w hi hv (fun z => ⟨fun z9 => absurd z9 one_ne, fun _ => ⟨rfl, Or.inr e1, z⟩⟩) (fun z => ⟨fun _ => ⟨rfl, fun z9 => z z9.2⟩, fun z9 => absurd rfl z9⟩)
    · rcases z.1 with g | g
      · exact ne g
      · exact e0 (by rw [g, Nat.sub_self]; rfl)
  · intro e
    have ne : zE A v i = 0 := Classical.byContradiction fun z => by
      rw [if_neg z] at e
      exact e rfl
    refine ⟨rfl, Or.inl ne, ?_, ?_⟩
    · rw [ne]; exact trivial
    · rw [ne]; rfl
theorem mm_right (w : zM A) (g : Ag A t) {Q : Int32 → MS → Prop} {v i : Nat} (hi : i < zN A) (hv : v < 4) (h1 : zRight A v i → Q 1 t) (h0 : ¬ zRight A v i → Q 0 t) : w_isRightIn (nI v) (nI i) t Q := by
  have hn := w.2.1
  obtain ⟨he, he2, -⟩ := z_r w hi hv
  have e6 : mgA t 6 (v_at (nI v) (nI i)) = nI (zE A v i) := by
    rw [at_nI hv, Ag_A g (f := 6) (by decide) (by omega)]
    exact he2
  have hsL := z_sL w hi hv (Nat.le_refl (zE A v i))
  have hL := z_len w hi
  unfold w_isRightIn
  rw [e6]
  refine ⟨by rw [at_nI hv]; exact vp_nI (n := 96) (by omega) (by decide), fun x2 hx2 => ?_⟩
  subst hx2
  refine ⟨fun x t' => t' = t ∧ ((x = 1 ∧ (zE A v i = 0 ∨ zS A v i (zE A v i) = zL A i)) ∨ (x = 0 ∧ ¬ (zE A v i = 0 ∨ zS A v i (zE A v i) = zL A i))), ?_, fun t' => t' = t ∧ (zE A v i = 0 ∨ zS A v i (zE A v i) = zL A i), ?_, ?_, ?_⟩
  · intro x t' hx
    obtain ⟨rfl, hx⟩ := hx
    refine lp_for (fun k z => (z.1 = 0 ∨ z.1 = 1) ∧ z.2 = (nI (zRun A v i k), nI k) ∧ (z.1 = 1 ↔ (zE A v i = 0 ∨ zS A v i (zE A v i) = zL A i) ∧ zOk A v i k)) (zE A v i) ?_ ?_ 0 (Nat.zero_le _) (x, 0, 0) ⟨?_, rfl, ?_⟩
    · intro k hk K z hz hK
      obtain ⟨z1, z2⟩ := z
      obtain ⟨hb, hz2, hb1⟩ := hz
      dsimp only at hb hz2 hb1
      subst hz2
      have hr := zRun_le w hi hv k (by omega)
      have hs := z_s w hi hv k (by omega)
      have hp := zp_lt (v := v) (i := i) (j := k) hv (by omega) (by omega)
      have ep : v_place (nI v) (nI i) (nI k) = nI (zp v i k) := pl_nI hv
      have e10 : mgA t' 10 (nI (zp v i k)) = A.2 10 (zp v i k) := Ag_A g (by decide) (by omega)
      obtain ⟨d1, d2⟩ := mm_ticksOf g hp
      unfold w_isRightIn_L42
      dsimp only
      rw [ep, e10, d2, (z_k w hi hv hk).1]
      refine ⟨fun h9 => absurd h9 (nI_ge hk (by omega)), fun _ => ⟨vp_nI (n := 1536) hp (by decide), fun x8 hx8 x9 hx9 => ⟨fun _ => d1, fun x10 hx10 => ?_⟩⟩⟩
      rw [nI_1]
      have e8 : x8 = 0 ↔ ¬ A.2 10 (zp v i k) = 2 := by
        rw [hx8]
        by_cases e : A.2 10 (zp v i k) = 2
        · rw [if_pos e]
          exact ⟨fun z => absurd z one_ne, fun z => absurd e z⟩
        · rw [if_neg e]
          exact ⟨fun _ => e, fun _ => rfl⟩
      have e6 := rem6_0 (x := zRun A v i k) (by omega)
      simp only [e6, e8] at hx9
      refine hK _ ⟨?_, ?_, ?_⟩
      · dsimp only
        rw [hx9]
        by_cases e : ¬ z1 = 0 ∧ (¬ ¬ A.2 10 (zp v i k) = 2 ∨ zRun A v i k % 6 = 0)
        · rw [if_pos e]; exact Or.inr rfl
        · rw [if_neg e]; exact Or.inl rfl
      · dsimp only
        rw [hx10, nI_add]
        show _ = (nI (if A.2 10 (zp v i k) = 2 then zRun A v i k + zK A v i k else 0), _)
        by_cases e : A.2 10 (zp v i k) = 2
        · rw [if_pos e, if_neg (fun z => (e8.mp z) e)]
        · rw [if_neg e, if_pos (e8.mpr e)]
          rfl
      · dsimp only
        have hz1 : ¬ z1 = 0 ↔ z1 = 1 := by
          rcases hb with hb | hb
          · rw [hb]; exact ⟨fun z => absurd rfl z, fun z => absurd z.symm one_ne⟩
          · rw [hb]; exact ⟨fun _ => rfl, fun _ => one_ne⟩
        rw [hx9]
        show _ ↔ _ ∧ (zOk A v i k ∧ (A.2 10 (zp v i k) = 2 ∨ zRun A v i k % 6 = 0))
        by_cases e : ¬ z1 = 0 ∧ (¬ ¬ A.2 10 (zp v i k) = 2 ∨ zRun A v i k % 6 = 0)
        · rw [if_pos e]
          have e1 := hb1.mp (hz1.mp e.1)
          refine ⟨fun _ => ⟨e1.1, e1.2, ?_⟩, fun _ => rfl⟩
          rcases e.2 with g9 | g9
          · exact Or.inl (Classical.byContradiction g9)
          · exact Or.inr g9
        · rw [if_neg e]
          refine ⟨fun z => absurd z.symm one_ne, fun z => absurd ⟨hz1.mpr (hb1.mpr ⟨z.1, z.2.1⟩), ?_⟩ e⟩
          rcases z.2.2 with g9 | g9
          · exact Or.inl (fun g8 => g8 g9)
          · exact Or.inr g9
    · intro K z hz
      obtain ⟨z1, z2⟩ := z
      obtain ⟨hb, hz2, hb1⟩ := hz
      dsimp only at hb hz2 hb1
      subst hz2
      have hr := zRun_le w hi hv (zE A v i) (Nat.le_refl _)
      have hs := z_s w hi hv (zE A v i) (Nat.le_refl _)
      unfold w_isRightIn_L42
      dsimp only
      have e6 := rem6_0 (x := zRun A v i (zE A v i)) (by omega)
      refine ⟨fun _ x5 hx5 => ?_, fun h9 => absurd (nI_le (Nat.le_refl _) (by omega)) h9⟩
      simp only [e6] at hx5
      by_cases e : ¬ z1 = 0 ∧ zRun A v i (zE A v i) % 6 = 0
      · rw [if_pos e] at hx5
        subst hx5
        rcases hb with hb | hb
        · exact absurd hb e.1
        · exact ⟨Or.inr rfl, h1 ⟨(hb1.mp hb).1, (hb1.mp hb).2, e.2⟩⟩
      · rw [if_neg e] at hx5
        subst hx5
        refine ⟨Or.inl rfl, h0 (fun z => e ⟨fun z9 => ?_, z.2.2⟩)⟩
        rw [hb1.mpr ⟨z.1, z.2.1⟩] at z9
        exact one_ne z9
    · rcases hx with hx | hx
      · exact Or.inr hx.1
      · exact Or.inl hx.1
    · dsimp only
      rcases hx with ⟨hx, h9⟩ | ⟨hx, h9⟩
      · rw [hx]
        exact ⟨fun _ => ⟨h9, trivial⟩, fun _ => rfl⟩
      · rw [hx]
        exact ⟨fun z => absurd z.symm one_ne, fun z => absurd z.1 h9⟩
  · exact fun t' hx => ⟨hx.1, Or.inl ⟨rfl, hx.2⟩⟩
  · exact fun e => ⟨rfl, Or.inl ((nI_eq (b := 0) (by omega) (by decide)).mp e)⟩
  · intro e
    have ne : ¬ zE A v i = 0 := fun z => e (by rw [z]; rfl)
    obtain ⟨l1, l2⟩ := mm_len w g hi
    refine mm_all w g hi hv ⟨l1, ?_, ?_⟩
    · rw [l2]
      intro e9
      exact ⟨rfl, Or.inr ((nI_eq (by omega) (by omega)).mp e9)⟩
    · rw [l2]
      intro e9
      refine ⟨rfl, Or.inr ⟨rfl, fun z => ?_⟩⟩
      rcases z with z | z
      · exact ne z
      · exact e9 (by rw [z])
end RF
section RG
variable {lb : Nat × Nat} {o so po : Nat} {I : Nat → CS → MS → Prop}
theorem si_isRight (hI : Iw lb o so po I) : Si_isRight lb o I := by
  intro n S t ov a1 a2 h
  obtain ⟨hA, hr, hn⟩ := hI n S t h
  have hB := hA.2.2.2.2.1
  have hM := hA.2.2.2.2.2.1
  have hg : ∀ x : Int32, Ag t (msI t 45 x) := fun x => Ag_msI (f := 45) (v := x) (Ag_rfl t) (by decide)
  refine ⟨(szC S + 1, nsC S + 6), ⟨hr, ⟨Nat.le_succ _, Nat.le_add_right _ _⟩⟩, a_VB hA ⟨Nat.le_refl _, Nat.le_refl _⟩ (fun v i hv hi ev ei hz hz2 => ?_) (fun hz sz ns => ?_) (fun hz hz2 sz ns => ?_)⟩
  · subst ev
    subst ei
    rw [oG_so hA.2.1]
    refine ⟨ne_so hA.2.1, hB.1, cc_right hB hM hi hv (fun hR => ⟨Or.inr rfl, fun _ => ?_, fun z => absurd z one_ne⟩) (fun hR => ⟨Or.inl rfl, fun z => absurd rfl z, fun _ => ?_⟩)⟩
    · intro _ _
      refine i_go0 hz hz2 one_ne ⟨fun x t' => x = 1 ∧ t' = msI t 45 0, ?_, fun _ => False, fun _ h => h.elim, fun h9 => absurd h9 one_ne, fun _ => mm_right hM (hg 0) hi hv (fun _ => ⟨fun h9 => absurd h9 one_ne, fun _ => ⟨rfl, rfl⟩⟩) (fun h9 => absurd hR h9)⟩
      rintro _ _ ⟨rfl, rfl⟩
      exact ⟨Or.inr rfl, thr_same t 0, fun _ => rfl, hn (szC S) (nsC S) _ (Nat.le_succ _) (Nat.le_add_right _ _) (hg 0)⟩
    · intro _ _
      refine i_go0 hz hz2 one_ne ⟨fun x t' => x = 0 ∧ t' = msI t 45 0, ?_, fun t' => t' = msI t 45 0, fun _ h => ⟨rfl, h⟩, fun h9 => absurd h9 one_ne, fun _ => mm_right hM (hg 0) hi hv (fun h9 => absurd h9 hR) (fun _ => ⟨fun _ => rfl, fun h9 => absurd rfl h9⟩)⟩
      rintro _ _ ⟨rfl, rfl⟩
      exact ⟨Or.inl rfl, thr_same t 0, fun _ => rfl, hn (szC S) (nsC S) _ (Nat.le_succ _) (Nat.le_add_right _ _) (hg 0)⟩
  · refine Or.inl ⟨rfl, fun hz1 hz2 => i_go1 hz ⟨fun x t' => x = 0 ∧ t' = msI t 45 1, ?_, fun t' => t' = msI t 45 1, fun _ h => ⟨rfl, h⟩, fun _ => rfl, fun h9 => absurd rfl h9⟩⟩
    rintro _ _ ⟨rfl, rfl⟩
    exact ⟨Or.inl rfl, thr_same t 1, fun z => absurd z (by decide), hn sz ns _ hz1 hz2 (hg 1)⟩
  · refine Or.inr ⟨rfl, fun hz3 hz4 => i_go2 hz hz2 ⟨fun x t' => x = 0 ∧ t' = msI t 45 2, ?_, fun t' => t' = msI t 45 2, fun _ h => ⟨rfl, h⟩, fun _ => rfl, fun h9 => absurd rfl h9⟩⟩
    rintro _ _ ⟨rfl, rfl⟩
    exact ⟨Or.inl rfl, thr_same t 2, fun z => absurd z (by decide), hn sz ns _ hz3 hz4 (hg 2)⟩
end RG
