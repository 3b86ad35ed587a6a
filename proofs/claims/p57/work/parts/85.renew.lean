/-! THE CLASS PLAYS A PLACE, AND THE SCORE -/
section RN
variable {A : MS} {L : List Nat} {S S0 S' : CS} {so po p : Nat} {x : Nat → Nat} {G : List Nat}
theorem sndX_c (h : sndX A L S po p x G) (h1 : fI S' = fI S) (h2 : fL S' = fL S) (h3 : fQ S' = fQ S) : sndX A L S' po p x G := by
  unfold sndX sndG sFld at h ⊢
  rw [h1, h2, h3]
  exact h
theorem rowOk_c (h : rowOk S po) (h1 : fL S' = fL S) (h2 : kdC S' = kdC S) : rowOk S' po := by
  unfold rowOk at h ⊢
  rw [h1, h2]
  exact h
theorem alc_c {c : Nat} (h : alc S0 S po c) (h1 : fL S' = fL S) (h2 : fC S' = fC S) (h3 : szC S' = szC S) (h4 : nsC S' = nsC S) : alc S0 S' po c := by
  unfold alc at h ⊢
  rw [h1, h2, h3, h4]
  exact h
theorem sndX_next (h : sndX A L S po p x G) (hx : ∀ v, v < 4 → x v = zE A v (gn L p)) : sndX A L S po (p + 1) (fun _ => 0) G := by
  have es : ∀ v, v < 4 → zSv A L v p (x v) = zSv A L v (p + 1) 0 := fun v hv => by rw [hx v hv]; rfl
  obtain ⟨⟨a1, a2, a3, a4, a5, a6⟩, b1, b2, b3⟩ := h
  have eg : ∀ g, g < G.length → gB (fun v => zSv A L v (p + 1) 0) G g = gB (fun v => zSv A L v p (x v)) G g := fun g hg => by
    unfold gB
    dsimp only
    rw [es _ (a3 g hg)]
  refine ⟨⟨a1, a2, a3, fun v hv => (a4 v hv).trans (congrArg Prod.fst (es v hv)), fun g hg => ?_, fun g g2 h1 h2 => ?_⟩, fun g u hg hu hxu => ?_, fun g hg => ?_, fun v hv hpos => ?_⟩
  · have := a5 g hg
    dsimp only at this ⊢
    rw [← es _ (a3 g hg)]
    exact this
  · have := a6 g g2 h1 h2
    rw [← eg g (by omega), ← eg g2 h2] at this
    exact this
  · show lexLt (gB (fun v => zSv A L v (p + 1) 0) G g) _ (zCu A L u (p + 1) 0) u
    rw [eg g hg, zCu_0]
    exact Or.inl (b2 g hg)
  · show gB (fun v => zSv A L v (p + 1) 0) G g < _
    rw [eg g hg]
    exact Nat.lt_of_lt_of_le (b2 g hg) (Nat.le_add_right _ _)
  · have e := es v hv
    dsimp only at hpos ⊢
    rw [← e] at hpos ⊢
    exact b3 v hv hpos
theorem cc_playPlace (w : zM A) (hL : ∀ x, x ∈ L → x < zN A) (h48 : L.length ≤ 48) (hp : p < L.length) (hbs : pBase A L so po S) (hX : sndX A L S po p (fun _ => 0) G) (hro : rowOk S po) (hal : alc S0 S po G.length) (hcap : capOk S0 po) {B : Nat × Nat} (hbud : bud S0 po (zTo A L) B) {Q : CS → Prop} {X : String → CS → Prop}
    (hQ : ∀ S' G', Eqf fQp S S' → sndX A L S' po (p + 1) (fun _ => 0) G' → rowOk S' po → alc S0 S' po G'.length → Q S') : w_X6_playPlace B po so (nI p) S Q X := by
  have hb := gn_lt hL hp
  have hbs0 := hbs
  obtain ⟨hB, hk, hpl, hld⟩ := hbs
  have e144 := (hpl.2.1 p hp).1
  have ep : (nI p).toNatClampNeg = p := nI_clamp (by omega)
  obtain ⟨b1, b2, b3, b4⟩ := cc_bar hB w hb
  have em : v_X9_measure so (nI (gn L p)) S = mrL S so (gn L p) := b3
  refine ⟨hk, vp_nI (n := 48) (by omega) (by decide), hB.1, ?_, vp_nI (n := 48) (by omega) (by decide), ?_⟩
  · rw [ep, e144]
    exact ⟨b1, b2, by rw [b3]; exact b4⟩
  rw [ep, e144]
  refine cc_tempo hB w _ hb ?_
  refine lp_for (fun k z => z.1 = nI k ∧ Eqf fQp S z.2 ∧ (kdC z.2 = kdC S ∧ fI z.2 = fI S ∧ fL z.2 = fL S ∧ fQ z.2 = fQ S ∧ fC z.2 = fC S ∧ szC z.2 = szC S ∧ nsC z.2 = nsC S) ∧ ∀ v, v < k → fA z.2 152 po v = nI 0 ∧ fA z.2 153 po v = nI 0) 4 ?_ ?_ 0 (Nat.zero_le _) (0, S) ⟨rfl, Eqf_rfl, ⟨rfl, rfl, rfl, rfl, rfl, rfl, rfl⟩, fun v hv => absurd hv (Nat.not_lt_zero _)⟩
  · intro k hk4 K z hz hK
    obtain ⟨z1, u⟩ := z
    obtain ⟨hz1, g, c, ha⟩ := hz
    dsimp only at hz1 g c ha
    subst hz1
    refine ⟨fun h9 => absurd h9 (nI_ge (a := k) (b := 4) hk4 (by decide)), fun _ => ⟨vp_nI (n := 4) hk4 (by decide), fun t10 h10 => ⟨vp_nI (n := 4) hk4 (by decide), fun t12 h12 => hK _ ⟨?_, ?_, ?_, fun v hv => ?_⟩⟩⟩⟩
    · show nI k + 1 = nI (k + 1)
      rw [nI_1]
    · dsimp only
      rw [h12, h10]
      exact Eqf_usA (Eqf_usA g (Or.inl (fun z => z.1.2 ⟨by decide, by decide⟩))) (Or.inl (fun z => z.1.2 ⟨by decide, by decide⟩))
    · dsimp only
      rw [h12, h10]
      exact c
    · dsimp only at h10 h12 ⊢
      rw [h12, fA_ne (by decide), fA_at (by omega), h10, fA_at (by omega), fA_ne (by decide)]
      by_cases e : v = k
      · rw [if_pos e, if_pos e]
        exact ⟨rfl, rfl⟩
      · rw [if_neg e, if_neg e]
        exact ha v (by omega)
  · intro K z hz
    obtain ⟨z1, u⟩ := z
    obtain ⟨hz1, g, ⟨c1, c2, c3, c4, c5, c6, c7⟩, ha⟩ := hz
    dsimp only at hz1 g c1 c2 c3 c4 c5 c6 c7 ha
    subst hz1
    refine ⟨fun _ => ?_, fun h9 => absurd (show (4 : Int32) ≤ nI 4 by decide) h9⟩
    refine lp_for (fun k z => z.1 = nI k ∧ ∃ x G', (∀ v, v < 4 → x v ≤ zE A v (gn L p)) ∧ x 0 + x 1 + x 2 + x 3 = k ∧ Eqf fQp S z.2 ∧ sndX A L z.2 po p x G' ∧ rowOk z.2 po ∧ alc S0 z.2 po G'.length ∧ (∀ v, v < 4 → fA z.2 152 po v = nI (x v)) ∧ ∀ v, v < 4 → fA z.2 153 po v = nI (zS A v (gn L p) (x v))) 64 ?_ ?_ 0 (Nat.zero_le _) (0, u) ⟨rfl, fun _ => 0, G, fun v _ => Nat.zero_le _, rfl, g, sndX_c hX c2 c3 c4, rowOk_c hro c3 c1, alc_c hal c3 c5 c6 c7, fun v hv => (ha v hv).1, fun v hv => (ha v hv).2⟩
    · intro k hk64 K z hz hK
      obtain ⟨z1, t⟩ := z
      obtain ⟨hz1, x, G', x1, x2, x3, x4, x5, x6, x7, x8⟩ := hz
      dsimp only at hz1 x3 x4 x5 x6 x7 x8
      subst hz1
      refine ⟨fun h9 => absurd h9 (nI_ge (a := k) (b := 64) hk64 (by decide)), fun _ => ?_⟩
      dsimp only
      rw [ep, e144, em]
      have hbs9 := pBase_Eq w hbs0 x3
      have em9 : mrL S so (gn L p) = mrL t so (gn L p) := by
        unfold mrL
        rw [((x3 so (by rw [hB.1]; decide)).2.2 192 ⟨by decide, by decide⟩).2.2.2.2.1]
      rw [em9]
      refine cc_nextVoice hbs9.1 w hbs9.2.1 hb x1 x7 x8 (fun hall => ?_) (fun v hv hxv hmin => ?_)
      · exact ⟨fun _ => hQ _ G' x3 (sndX_next x4 hall) x5 x6, fun h9 => absurd rfl h9⟩
      · refine ⟨fun h9 => absurd h9 (nI_neg1 (by omega)), fun _ => ?_⟩
        refine cc_playEvent w hL h48 hv hp hbs9 x1 hxv x7 x8 x4 x5 x6 hcap hmin hbud (fun S' G2 y1 y2 y3 y4 y5 y6 => hK _ ⟨?_, _, G2, fun u hu => ?_, ?_, Eqf_trans x3 y1, y2, y3, y4, y5, y6⟩)
        · show nI k + 1 = nI (k + 1)
          rw [nI_1]
        · rw [va_up_at]
          by_cases e : u = v
          · rw [if_pos e, e]
            exact hxv
          · rw [if_neg e]
            exact x1 u hu
        · rw [va_up_at, va_up_at, va_up_at, va_up_at]
          have hv4 : v = 0 ∨ v = 1 ∨ v = 2 ∨ v = 3 := by omega
          rcases hv4 with rfl | rfl | rfl | rfl <;> simp <;> omega
    · intro K z hz
      obtain ⟨z1, t⟩ := z
      obtain ⟨hz1, x, G', x1, x2, x3, x4, x5, x6, x7, x8⟩ := hz
      dsimp only at hz1 x3 x4 x5 x6 x7 x8
      subst hz1
      refine ⟨fun _ => hQ _ G' x3 (sndX_next x4 (fun v hv => ?_)) x5 x6, fun h9 => absurd (show (64 : Int32) ≤ nI 64 by decide) h9⟩
      have q0 := x1 0 (by decide)
      have q1 := x1 1 (by decide)
      have q2 := x1 2 (by decide)
      have q3 := x1 3 (by decide)
      have r0 := (z_r w hb (v := 0) (by decide)).1
      have r1 := (z_r w hb (v := 1) (by decide)).1
      have r2 := (z_r w hb (v := 2) (by decide)).1
      have r3 := (z_r w hb (v := 3) (by decide)).1
      have hv4 : v = 0 ∨ v = 1 ∨ v = 2 ∨ v = 3 := by omega
      rcases hv4 with rfl | rfl | rfl | rfl <;> omega
end RN
