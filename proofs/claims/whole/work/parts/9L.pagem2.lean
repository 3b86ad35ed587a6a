/-! THE MODEL WEIGHS ALL PAGES -/
section PN
variable {E : Nat → Nat} {R n : Nat} {T : (Nat → Nat) × (Nat → Nat)} {D : Nat → Nat → Nat → Prop} {l s b : Nat} {t u : MS}
theorem ix_is {l s b : Nat} : (4 * nI l + 2 * nI s) + nI b = nI (gIx l s b) := by
  rw [show (4 : Int32) = nI 4 from rfl, show (2 : Int32) = nI 2 from rfl, pk_mul, pk_mul, nI_add, nI_add]
  rfl
theorem mm_step19 (hE : ∀ k, E k ≤ 520000) (hR : R ≤ 6) (hR1 : 1 ≤ R) (hn : n ≤ 24) (hl : l < n) (hs : s < 2) (hb : b < 2) (hi : pgI u E R n) (h : gDk E R n T D) (hm : pgM u E n T D) (hD : ∀ l2 s2, l < l2 → l2 < n → s2 < 2 → D l2 s2 0) (hB : b = 0 → D l (1 - s) 1) {u0 u1 : MS} {K13 K19 : (Int32 × MS) → Prop} (hK : ∀ t', F43 u t' → pgM t' E n (gUp E R n l T s b) (gAd D l s b) → K19 (nI (s + 1), t')) : w_weighsPages_L19 (nI l, u0) K13 (nI b, u1) K19 (nI s, u) := by
  have hrd := gDk_rd h hD
  have htf := gTf_le (l := l) (s := s) (b := b) hE
  obtain ⟨c1, c2, c3⟩ := gC_ok hl hR1
  have hC : R < gC R n l + 1 ∨ n < l + (gC R n l + 1) := by
    unfold gC
    by_cases c : n - l < R
    · rw [if_pos c]; omega
    · rw [if_neg c]; omega
  have eb : nI b = 0 ↔ b = 0 := nI_eq (b := 0) (by omega) (by decide)
  have hge : 64 * gTf E l s b ≤ gX0 E T.1 l s b ∧ gX0 E T.1 l s b < 2147483648 := by
    unfold gX0
    by_cases c : b = 0
    · rw [if_pos c]
      have := gBl_ok (E := E) (T := T.1) hs hn hl (h.1 l (1 - s) 1 hl (by omega) (by decide) (hB c)).1
      obtain ⟨q1, q2, q3⟩ := this
      rw [c]
      omega
    · rw [if_neg c]
      omega
  have hgw : ∀ c, 64 * gTf E l s b ≤ gW E R n T.1 l s b c := fun c => by unfold gW; omega
  have hmn : ∀ c, 64 * gTf E l s b ≤ gMn E R n T.1 l s b (gX0 E T.1 l s b) c ∧ gMn E R n T.1 l s b (gX0 E T.1 l s b) c < 2147483648 := fun c => by
    obtain ⟨m1, m2, m3⟩ := gMn_ok (E := E) (R := R) (n := n) (l := l) (s := s) (b := b) (T := T.1) (x := gX0 E T.1 l s b) c
    refine ⟨?_, by omega⟩
    rcases m3 with z | ⟨y, y1, y2, y3⟩
    · omega
    · rw [y3]
      exact hgw y
  refine ⟨fun h9 => absurd h9 (nI_ge (a := s) (b := 2) hs (by decide)), fun _ => ⟨fun hb0 => (mm_withBlank hn hs hl hi h hm (hB (eb.mp hb0))).1, fun x2 hx2 => ?_⟩⟩
  have f2 : x2 = nI (gX0 E T.1 l s b - 64 * gTf E l s b) := by
    rw [hx2]
    dsimp only
    unfold gX0
    by_cases c : b = 0
    · rw [if_pos (eb.mpr c), if_pos c, (mm_withBlank hn hs hl hi h hm (hB c)).2, c]
    · rw [if_neg (fun z => c (eb.mp z)), if_neg c, show 2000000000 + 64 * gTf E l s b - 64 * gTf E l s b = 2000000000 by omega]
      rfl
  refine lp_for (fun c z => z.1 = nI (gMn E R n T.1 l s b (gX0 E T.1 l s b) c - 64 * gTf E l s b) ∧ z.2 = nI (c + 1)) (gC R n l) ?_ ?_ 0 (Nat.zero_le _) (x2, 1) ⟨f2, rfl⟩
  · intro c hc K z hz hK2
    obtain ⟨z1, z2⟩ := z
    obtain ⟨hz1, hz2⟩ := hz
    dsimp only at hz1 hz2
    subst hz1
    subst hz2
    have e22 : mgI u 22 = nI R := hi.2.1
    have e38 : mgI u 38 = nI n := hi.1
    obtain ⟨d1, d2⟩ := mm_withLines (b := b) hE hR hn hs hi h hm hD (c := c + 1) (by omega) (by omega) (by omega)
    have hg1 := hmn c
    have hg2 := hgw (c + 1)
    have hwb := (gW_ok (E := E) (R := R) (n := n) (T := T.1) (l := l) (s := s) (b := b) hE hR hn hb (show 1 ≤ c + 1 by omega) (by omega) (fun z => hrd.1 _ _ (by omega) z (by omega)) (fun z => by rw [z]; exact hrd.2 _ (by omega))).2
    have ele : nI (gMn E R n T.1 l s b (gX0 E T.1 l s b) c - 64 * gTf E l s b) ≤ nI (gW E R n T.1 l s b (c + 1) - 64 * gTf E l s b) ↔ gMn E R n T.1 l s b (gX0 E T.1 l s b) c ≤ gW E R n T.1 l s b (c + 1) := by
      constructor
      · intro z
        refine Classical.byContradiction fun z2 => nI_ge (a := gW E R n T.1 l s b (c + 1) - 64 * gTf E l s b) (b := gMn E R n T.1 l s b (gX0 E T.1 l s b) c - 64 * gTf E l s b) (by omega) (by omega) z
      · intro z
        exact nI_le (by omega) (by omega)
    unfold w_weighsPages_L45
    dsimp only
    rw [e22, e38, d2, nI_add]
    refine ⟨fun h9 => ?_, fun _ => ⟨d1, fun x7 hx7 x8 hx8 => hK2 _ ⟨?_, ?_⟩⟩⟩
    · rcases h9 with h9 | h9
      · exact absurd ((nI_ltI (by omega) (by omega)).mp h9) (by omega)
      · exact absurd ((nI_ltI (by omega) (by omega)).mp h9) (by omega)
    · show x8 = nI ((if gMn E R n T.1 l s b (gX0 E T.1 l s b) c ≤ gW E R n T.1 l s b (c + 1) then gMn E R n T.1 l s b (gX0 E T.1 l s b) c else gW E R n T.1 l s b (c + 1)) - 64 * gTf E l s b)
      rw [hx7] at hx8
      by_cases q : gMn E R n T.1 l s b (gX0 E T.1 l s b) c ≤ gW E R n T.1 l s b (c + 1)
      · rw [if_pos (ele.mpr q)] at hx8
        rw [if_pos q]
        exact hx8
      · rw [if_neg (fun z => q (ele.mp z))] at hx8
        rw [if_neg q]
        exact hx8
    · show nI (c + 1) + 1 = nI (c + 1 + 1)
      rw [nI_1]
  · intro K z hz
    obtain ⟨z1, z2⟩ := z
    obtain ⟨hz1, hz2⟩ := hz
    dsimp only at hz1 hz2
    subst hz1
    subst hz2
    have e22 : mgI u 22 = nI R := hi.2.1
    have e38 : mgI u 38 = nI n := hi.1
    have hix : gIx l s b < 100 := by unfold gIx; omega
    unfold w_weighsPages_L45
    dsimp only
    rw [e22, e38, ix_is, nI_add, gMn_is hE hR hR1 hn hl hb hrd hs]
    refine ⟨fun _ => ⟨vp_nI (n := 100) hix (by decide), fun t5 h5 => ?_⟩, fun h9 => absurd ?_ h9⟩
    · rw [nI_1]
      refine hK t5 ⟨by rw [h5]; rfl, fun f hf => by rw [h5, mA_ne hf]⟩ (fun l2 s2 b2 y1 y2 y3 y4 => ?_)
      have hi2 := gIx_inj (l := l2) (l2 := l) y2 y3 hs hb
      rw [h5, mA_at (by omega), (gUp_T (E := E) (R := R) (n := n) (t := T) (l := l) (s := s) (b := b) hs hb (l2 := l2) y2 y3).1]
      by_cases e : l2 = l ∧ s2 = s ∧ b2 = b
      · rw [if_pos (hi2.mpr e), if_pos e, e.1, e.2.1, e.2.2]
      · rw [if_neg (fun z => e (hi2.mp z)), if_neg e]
        exact hm l2 s2 b2 y1 y2 y3 (y4.elim id (fun z => absurd z e))
    · rcases hC with z | z
      · exact Or.inl (nI_lt z (by omega))
      · exact Or.inr (nI_lt z (by omega))
theorem pgM_sub {D' : Nat → Nat → Nat → Prop} (h : pgM t E n T D) (hD : ∀ l s b, l < n → s < 2 → b < 2 → D' l s b → D l s b) : pgM t E n T D' := fun l s b h1 h2 h3 h4 => h l s b h1 h2 h3 (hD l s b h1 h2 h3 h4)
theorem mm_weighs (hE : ∀ k, E k ≤ 520000) (hR : R ≤ 6) (hR1 : 1 ≤ R) (hn : n ≤ 24) (hi : pgI t E R n) {Q : MS → Prop} (hQ : ∀ t', F43 t t' → pgM t' E n (gT E R n n) (gDt n n) → Q t') : w_weighsPages t Q := by
  have e38 : mgI t 38 = nI n := hi.1
  intro x1 hx1
  rw [e38] at hx1
  refine lp_for (fun k z => z.1 = nI (n - k) + (-1) ∧ F43 t z.2 ∧ pgM z.2 E n (gT E R n k) (gDt n k)) n ?_ ?_ 0 (Nat.zero_le _) (x1, t) ⟨?_, F43_rfl, fun l s b y1 y2 y3 y4 => by have : n - 0 ≤ l := y4; omega⟩
  · intro k hk K z hz hK
    obtain ⟨z1, u⟩ := z
    obtain ⟨hz1, F, m⟩ := hz
    dsimp only at hz1 F m
    rw [show n - k = (n - 1 - k) + 1 by omega, pk_m1] at hz1
    subst hz1
    have h0 := gT_ok (E := E) (R := R) hE hR hR1 hn k (by omega)
    have hl : n - 1 - k < n := by omega
    have d0 : ∀ l2 s2, n - 1 - k < l2 → l2 < n → s2 < 2 → gDt n k l2 s2 0 := fun l2 s2 y1 y2 y3 => by show n - k ≤ l2; omega
    have low : ∀ l2 s2 b2, gDt n k l2 s2 b2 → n - 1 - k ≤ l2 := fun l2 s2 b2 y => by have : n - k ≤ l2 := y; omega
    have h1 := gDk_up hE hR hR1 hn hl (s := 0) (b := 1) (by decide) (by decide) h0 d0 (fun z => absurd z (by decide)) low
    have h2 := gDk_up hE hR hR1 hn hl (s := 1) (b := 1) (by decide) (by decide) h1 (fun l2 s2 y1 y2 y3 => Or.inl (d0 l2 s2 y1 y2 y3)) (fun z => absurd z (by decide)) (fun l2 s2 b2 y => y.elim (low l2 s2 b2) (fun z => by omega))
    have h3 := gDk_up hE hR hR1 hn hl (s := 0) (b := 0) (by decide) (by decide) h2 (fun l2 s2 y1 y2 y3 => Or.inl (Or.inl (d0 l2 s2 y1 y2 y3))) (fun _ => Or.inr ⟨rfl, rfl, rfl⟩) (fun l2 s2 b2 y => y.elim (fun y => y.elim (low l2 s2 b2) (fun z => by omega)) (fun z => by omega))
    refine ⟨fun h9 => absurd h9 (nI_pos (by omega)), fun _ => ⟨3, ?_⟩⟩
    have hu := pgI_43 hi F
    refine ⟨fun h9 => absurd h9 (show ¬ ((1 : Int32) < 0) by decide), fun _ => ⟨3, ?_⟩⟩
    refine mm_step19 (s := 0) (b := 1) hE hR hR1 hn hl (by decide) (by decide) hu h0 m d0 (fun z => absurd z (by decide)) (fun t1 F1 m1 => ?_)
    refine mm_step19 (s := 1) (b := 1) hE hR hR1 hn hl (by decide) (by decide) (pgI_43 hu F1) h1 m1 (fun l2 s2 y1 y2 y3 => Or.inl (d0 l2 s2 y1 y2 y3)) (fun z => absurd z (by decide)) (fun t2 F2 m2 => ?_)
    refine ⟨fun _ => ?_, fun h9 => absurd (show (2 : Int32) ≤ nI (1 + 1) by decide) h9⟩
    dsimp only
    rw [show ((1 : Int32) + (-1)) = nI 0 by decide]
    refine ⟨fun h9 => absurd h9 (nI_pos (n := 0) (by decide)), fun _ => ⟨3, ?_⟩⟩
    refine mm_step19 (s := 0) (b := 0) hE hR hR1 hn hl (by decide) (by decide) (pgI_43 (pgI_43 hu F1) F2) h2 m2 (fun l2 s2 y1 y2 y3 => Or.inl (Or.inl (d0 l2 s2 y1 y2 y3))) (fun _ => Or.inr ⟨rfl, rfl, rfl⟩) (fun t3 F3 m3 => ?_)
    refine mm_step19 (s := 1) (b := 0) hE hR hR1 hn hl (by decide) (by decide) (pgI_43 (pgI_43 (pgI_43 hu F1) F2) F3) h3 m3 (fun l2 s2 y1 y2 y3 => Or.inl (Or.inl (Or.inl (d0 l2 s2 y1 y2 y3)))) (fun _ => Or.inl (Or.inl (Or.inr ⟨rfl, rfl, rfl⟩))) (fun t4 F4 m4 => ?_)
    refine ⟨fun _ => ?_, fun h9 => absurd (show (2 : Int32) ≤ nI (1 + 1) by decide) h9⟩
    refine ⟨fun _ => hK _ ⟨?_, F43_trans F (F43_trans F1 (F43_trans F2 (F43_trans F3 F4))), pgM_sub m4 (fun l s b y1 y2 y3 y4 => ?_)⟩, fun h9 => absurd (show nI 0 + (-1) < 0 by decide) h9⟩
    · show nI (n - 1 - k) + (-1) = nI (n - (k + 1)) + (-1)
      rw [show n - (k + 1) = n - 1 - k by omega]
    · have y5 : n - (k + 1) ≤ l := y4
      by_cases e : n - k ≤ l
      · exact Or.inl (Or.inl (Or.inl (Or.inl e)))
      · have el : l = n - 1 - k := by omega
        have hs2 : s = 0 ∨ s = 1 := by omega
        have hb2 : b = 0 ∨ b = 1 := by omega
        rcases hs2 with rfl | rfl <;> rcases hb2 with rfl | rfl
        · exact Or.inl (Or.inr ⟨el, rfl, rfl⟩)
        · exact Or.inl (Or.inl (Or.inl (Or.inr ⟨el, rfl, rfl⟩)))
        · exact Or.inr ⟨el, rfl, rfl⟩
        · exact Or.inl (Or.inl (Or.inr ⟨el, rfl, rfl⟩))
  · intro K z hz
    obtain ⟨z1, u⟩ := z
    obtain ⟨hz1, F, m⟩ := hz
    dsimp only at hz1 F m
    have e1 : z1 = -1 := by rw [hz1, Nat.sub_self]; rfl
    subst e1
    exact ⟨fun _ => hQ u F m, fun h9 => absurd (show (-1 : Int32) < 0 by decide) h9⟩
  · show x1 = nI (n - 0) + (-1)
    rw [hx1, Int32.sub_eq_add_neg]
    rfl
end PN
