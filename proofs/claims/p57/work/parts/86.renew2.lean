/-! THE PLAYING IS RENEWED -/
def PlayOK (A : MS) (S : CS) (po : Nat) : Prop := plC A S po (zPl A (zN A)) ∧ ∃ G, sndG A (fun v => zSs A (zPl A (zN A)) v (zPl A (zN A)).length) S po G
def fRn (f : Nat) : Prop := ¬ (144 ≤ f ∧ f ≤ 153) ∧ f ≠ 53 ∧ ¬ (208 ≤ f ∧ f ≤ 212)
def qRn (f : Nat) : Prop := (144 ≤ f ∧ f ≤ 150) ∨ f = 53
section RN2
variable {A : MS} {S : CS} {so po : Nat}
theorem alc_0 : alc S S po 0 := by
  refine ⟨0, rfl, ?_, rfl, ?_, ?_⟩
  · exact (Nat.max_eq_left (Nat.zero_le _)).symm
  · exact Nat.le_add_right _ _
  · exact Nat.le_add_right _ _
theorem Fc_sub {P P' : Nat → Prop} {S S' : CS} (hP : ∀ f, P f → P' f) (h : Fc P S S') : Fc P' S S' := ⟨h.1, fun f hf => h.2 f (fun z => hf (hP f z))⟩
theorem rB_qRn {S' : CS} (h : rB S A so) (g : Fc qRn S S') : rB S' A so := rB_c h (Eqf_Fc g (fun f z => by unfold fB0 at z; unfold qRn; omega)) rfl rfl rfl rfl rfl rfl rfl rfl rfl rfl rfl
theorem rT_qRn {S' : CS} (hk : kdC S so = 12) (h : rT S A so) (g : Fc qRn S S') : rT S' A so := rT_c (by rw [hk]; decide) h (Eqf_Fc g (fun f z => by unfold fT0 at z; unfold qRn; omega)) rfl rfl rfl
theorem cc_renew (w : zM A) (hB : rB S A so) (hT : rT S A so) (hk : kdC S po = 9) (hro : rowOk S po) (hcap : capOk S po) {B : Nat × Nat} (hbud : ¬ fI S 150 po = fI S 199 so → bud S po (zTo A (zPl A (zN A))) B) (hcache : fI S 150 po = fI S 199 so → PlayOK A S po) {Q : CS → Prop} {X : String → CS → Prop}
    (hQ : ∀ S', Eqf fRn S S' → PlayOK A S' po → fI S' 150 po = fI S 199 so → rowOk S' po → (fI S 150 po = fI S 199 so → S' = S) → (¬ fI S 150 po = fI S 199 so → alc S S' po (zTo A (zPl A (zN A)))) → Q S') : w_X6_renew B po so S Q X := by
  have hMt := hT.2.1
  have hL : ∀ x, x ∈ zPl A (zN A) → x < zN A := zPl_lt w hMt (Nat.le_refl _)
  have h48 : (zPl A (zN A)).length ≤ 48 := zPl_len48 w hMt (Nat.le_refl _)
  have hn := w.2.1
  refine ⟨hk, hB.1, fun he => hQ S Eqf_rfl (hcache he) he hro (fun _ => rfl) (fun z => absurd he z), fun hne t3 h3 => ?_⟩
  have F3 : Fc qRn S t3 := by
    rw [h3]
    exact Fc_usI Fc_rfl (Or.inl ⟨by decide, by decide⟩)
  have e3 : fI t3 150 po = fI S 199 so := by rw [h3, fI_at, if_pos rfl]
  refine cc_layPlaces (rB_qRn hB F3) w (rT_qRn hB.1 hT F3) (by rw [F3.1.1]; exact hk) (fun t4 F4 p4 => ?_)
  have F4' : Fc qRn S t4 := Fc_trans F3 (Fc_sub (fun f z => by unfold pF at z; unfold qRn; omega) F4)
  refine cc_spread (rB_qRn hB F4') w (fun t5 F5 l5 => ?_)
  have F5' : Fc qRn S t5 := Fc_trans F4' (Fc_sub (fun f z => by unfold fLd at z; unfold qRn; omega) F5)
  intro t6 h6
  have F6 : Fc (fun f => f = 149) t5 t6 := by
    rw [h6]
    exact Fc_usI Fc_rfl rfl
  have F6' : Fc qRn S t6 := Fc_trans F5' (Fc_sub (fun f z => by unfold qRn; omega) F6)
  have e6 : fI t6 150 po = fI S 199 so := by
    rw [(F6.2 150 (by decide)).1, (F5.2 150 (by unfold fLd; decide)).1, (F4.2 150 (by unfold pF; decide)).1]
    exact e3
  have e149 : fI t6 149 po = nI 0 := by rw [h6, fI_at, if_pos rfl]; rfl
  have p6 : plC A t6 po (zPl A (zN A)) := by
    obtain ⟨q1, q2, q3⟩ := p4
    refine ⟨?_, fun p hp => ?_, ?_⟩
    · rw [(F6.2 146 (by decide)).1, (F5.2 146 (by unfold fLd; decide)).1]
      exact q1
    · rw [(F6.2 144 (by decide)).2, (F5.2 144 (by unfold fLd; decide)).2, (F6.2 145 (by decide)).2, (F5.2 145 (by unfold fLd; decide)).2]
      exact q2 p hp
    · rw [(F6.2 147 (by decide)).1, (F5.2 147 (by unfold fLd; decide)).1]
      exact q3
  have l6 : ldTo t6 A so 1536 t6 := fun v i j a1 a2 a3 a4 => by
    have := l5 v i j a1 a2 a3 a4
    rw [(evL_Fc F6).1, (evL_Fc F5).1, (F6.2 53 (by decide)).1]
    exact this
  have hb6 : pBase A (zPl A (zN A)) so po t6 := ⟨rB_qRn hB F6', by rw [F6'.1.1]; exact hk, p6, l6⟩
  have x6 : sndX A (zPl A (zN A)) t6 po 0 (fun _ => 0) [] := by
    refine ⟨⟨e149, Nat.zero_le _, fun g hg => absurd hg (Nat.not_lt_zero _), fun v _ => rfl, fun g hg => absurd hg (Nat.not_lt_zero _), fun g g2 _ hg => absurd hg (Nat.not_lt_zero _)⟩, fun g u hg => absurd hg (Nat.not_lt_zero _), fun g hg => absurd hg (Nat.not_lt_zero _), fun v _ hv => absurd hv (Nat.not_lt_zero _)⟩
  have c6 := F6'.1
  have ro6 : rowOk t6 po := rowOk_c hro c6.2.2.2.2.1 c6.1
  have al6 : alc S t6 po ([] : List Nat).length := alc_c alc_0 c6.2.2.2.2.1 c6.2.2.2.2.2.1 c6.2.2.2.2.2.2.1 c6.2.2.2.2.2.2.2
  have hpo : kdC t6 po ≠ 0 := by rw [c6.1, hk]; decide
  refine lp_for (fun k z => z.1 = nI k ∧ ∃ G, Eqf fQp t6 z.2 ∧ sndX A (zPl A (zN A)) z.2 po k (fun _ => 0) G ∧ rowOk z.2 po ∧ alc S z.2 po G.length) (zPl A (zN A)).length ?_ ?_ 0 (Nat.zero_le _) (0, t6) ⟨rfl, [], Eqf_rfl, x6, ro6, al6⟩
  · intro k hk4 K z hz hK
    obtain ⟨z1, u⟩ := z
    obtain ⟨hz1, G, g, y1, y2, y3⟩ := hz
    dsimp only at hz1 g y1 y2 y3
    subst hz1
    have hbu := pBase_Eq w hb6 g
    have e146 : fI u 146 po = nI (zPl A (zN A)).length := hbu.2.2.1.1
    refine ⟨fun h9 => ?_, fun _ => ?_⟩
    · dsimp only at h9
      rw [e146] at h9
      exact absurd h9 (nI_ge hk4 (by omega))
    · refine cc_playPlace w hL h48 hk4 hbu y1 y2 y3 hcap (hbud hne) (fun S' G' v1 v2 v3 v4 => hK _ ⟨?_, G', Eqf_trans g v1, v2, v3, v4⟩)
      show nI k + 1 = nI (k + 1)
      rw [nI_1]
  · intro K z hz
    obtain ⟨z1, u⟩ := z
    obtain ⟨hz1, G, g, y1, y2, y3⟩ := hz
    dsimp only at hz1 g y1 y2 y3
    subst hz1
    have hbu := pBase_Eq w hb6 g
    have e146 : fI u 146 po = nI (zPl A (zN A)).length := hbu.2.2.1.1
    have eS : Eqf fRn S u := Eqf_trans (Eqf_Fc F6' (fun f z => by unfold fRn at z; unfold qRn; omega)) (Eqf_sub (fun f z => by unfold fRn at z; unfold fQp; omega) g)
    have e150 : fI u 150 po = fI S 199 so := ((g po hpo).2.2 150 (by unfold fQp; omega)).1.trans e6
    refine ⟨fun _ => hQ u eS ⟨hbu.2.2.1, G, y1.1⟩ e150 y2 (fun z => absurd z hne) (fun _ => ?_), fun h9 => ?_⟩
    · have e : G.length = zTo A (zPl A (zN A)) := gLen y1.1
      rw [← e]
      exact y3
    · dsimp only at h9
      rw [e146] at h9
      exact absurd (nI_le (Nat.le_refl _) (by omega)) h9
end RN2
