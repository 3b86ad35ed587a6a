/-! WHAT CAN BE DRAWN -/
def zDr (A : MS) (v : Nat) : Prop := 0 < zN A ∧ ∀ i, i < zN A → zRight A v i
/-- lines of a page at most; the choices of the pages of a part -/
def dRm (A : MS) : Nat := aN (A.1 22)
def dPg (A : MS) (v : Nat) : Nat → Nat := (gT (dE A v) (dRm A) (dL A v) (dL A v)).2
section DN
variable {A t : MS} {S : CS} {so v : Nat}
theorem dE_le : ∀ k, dE A v k ≤ 520000 := fun k => by
  unfold dE
  have e1 : (if aN (A.1 23) ≤ dR A v k then 0 else 20000) ≤ 20000 := by
    by_cases c : aN (A.1 23) ≤ dR A v k
    · rw [if_pos c]; omega
    · rw [if_neg c]; omega
  have e2 : (if zFb A v (dB A v k - 1) = true then 500000 else 0) ≤ 500000 := by
    by_cases c : zFb A v (dB A v k - 1) = true
    · rw [if_pos c]; omega
    · rw [if_neg c]; omega
  omega
theorem dRm_ok (hS : zMs A) : 1 ≤ dRm A ∧ dRm A ≤ 6 ∧ A.1 22 = nI (dRm A) := by
  obtain ⟨-, ⟨x, x1, x2, x3⟩, -⟩ := hS
  unfold dRm
  rw [x3, aN_nI (by omega)]
  exact ⟨x1, x2, rfl⟩
theorem mm_canDraw (w : zM A) (g : Ag A t) (hv : v < 4) {Q : Int32 → MS → Prop} (h1 : zDr A v → Q 1 t) (h0 : ¬ zDr A v → Q 0 t) : w_canDraw (nI v) t Q := by
  have hn := w.2.1
  have e0 : mgI t 0 = nI (zN A) := (g.1 0 (by decide)).1.trans w.1
  intro x1 hx1
  rw [e0] at hx1
  have ep : nI (zN A) ≤ 0 ↔ zN A = 0 := ⟨fun z => Classical.byContradiction fun z2 => nI_nle (n := zN A) (by omega) (by omega) z, fun z => by rw [z]; decide⟩
  refine lp_for (fun k z => z.2.1 = nI k ∧ z.2.2 = t ∧ ((z.1 = 1 ∧ 0 < zN A ∧ ∀ i, i < k → zRight A v i) ∨ (z.1 = 0 ∧ ¬ (0 < zN A ∧ ∀ i, i < k → zRight A v i)))) (zN A) ?_ ?_ 0 (Nat.zero_le _) (x1, 0, t) ⟨rfl, rfl, ?_⟩
  · intro k hk K z hz hK
    obtain ⟨z1, z2, u⟩ := z
    obtain ⟨hz2, hu, hz1⟩ := hz
    dsimp only at hz1 hz2 hu
    subst hz2
    subst hu
    unfold w_canDraw_L15
    dsimp only
    rw [e0]
    refine ⟨fun h9 => absurd h9 (nI_ge hk (by omega)), fun _ => ⟨fun x t4 => t4 = u ∧ ((x = 1 ∧ 0 < zN A ∧ ∀ i, i < k + 1 → zRight A v i) ∨ (x = 0 ∧ ¬ (0 < zN A ∧ ∀ i, i < k + 1 → zRight A v i))), fun x3 t4 h4 => ?_, fun t5 => t5 = u ∧ ¬ (0 < zN A ∧ ∀ i, i < k + 1 → zRight A v i), fun t5 h5 => ⟨h5.1, Or.inr ⟨rfl, h5.2⟩⟩, fun hz => ⟨rfl, ?_⟩, fun hz => ?_⟩⟩
    · rw [nI_1]
      exact hK _ ⟨rfl, h4.1, h4.2⟩
    · rcases hz1 with ⟨q, -⟩ | ⟨-, q⟩
      · exact absurd (q.symm.trans hz) one_ne
      · exact fun z => q ⟨z.1, fun i hi => z.2 i (by omega)⟩
    · rcases hz1 with ⟨-, q1, q2⟩ | ⟨q, -⟩
      · refine mm_right w g hk hv (fun hr => ⟨fun z => absurd z one_ne, fun _ => ⟨rfl, Or.inl ⟨rfl, q1, fun i hi => ?_⟩⟩⟩) (fun hr => ⟨fun _ => ⟨rfl, fun z => hr (z.2 k (Nat.lt_succ_self _))⟩, fun z => absurd rfl z⟩)
        by_cases e : i = k
        · rw [e]; exact hr
        · exact q2 i (by omega)
      · exact absurd q hz
  · intro K z hz
    obtain ⟨z1, z2, u⟩ := z
    obtain ⟨hz2, hu, hz1⟩ := hz
    dsimp only at hz1 hz2 hu
    subst hz2
    subst hu
    unfold w_canDraw_L15
    dsimp only
    rw [e0]
    refine ⟨fun _ => ?_, fun h9 => absurd (nI_le (Nat.le_refl _) (by omega)) h9⟩
    rcases hz1 with ⟨q, q1, q2⟩ | ⟨q, q1⟩
    · rw [q]
      exact ⟨Or.inr rfl, h1 ⟨q1, q2⟩⟩
    · rw [q]
      exact ⟨Or.inl rfl, h0 q1⟩
  · by_cases c : zN A = 0
    · rw [if_neg (fun z => z (ep.mpr c))] at hx1
      exact Or.inr ⟨hx1, fun z => by omega⟩
    · rw [if_pos (fun z => c (ep.mp z))] at hx1
      exact Or.inl ⟨hx1, by omega, fun i hi => absurd hi (Nat.not_lt_zero _)⟩
theorem cc_canDraw (hB : rB S A so) (w : zM A) (hv : v < 4) {B : Nat × Nat} {Q : Int32 → CS → Prop} {X : String → CS → Prop} (h1 : zDr A v → Q 1 S) (h0 : ¬ zDr A v → Q 0 S) : w_X9_canBeDrawn B so (nI v) S Q X := by
  have hn := w.2.1
  have el : (fL S 192 so).length = zN A := cc_n hB w
  refine lp_for (fun k z => z.1 = nI k ∧ z.2 = S ∧ ∀ i, i < k → zRight A v i) (zN A) ?_ ?_ 0 (Nat.zero_le _) (0, S) ⟨rfl, rfl, fun i hi => absurd hi (Nat.not_lt_zero _)⟩
  · intro k hk K z hz hK
    obtain ⟨z1, u⟩ := z
    obtain ⟨hz1, hu, hr⟩ := hz
    dsimp only at hz1 hu hr
    subst hz1
    subst hu
    unfold w_X9_canBeDrawn_L2
    dsimp only
    rw [el]
    refine ⟨hB.1, fun h9 => absurd h9 (nI_ge hk (by omega)), fun _ => cc_right hB w hk hv (fun hr2 => ⟨fun z => absurd z one_ne, fun _ => ?_⟩) (fun hr2 => ⟨fun _ => h0 (fun z => hr2 (z.2 k hk)), fun z => absurd rfl z⟩)⟩
    rw [nI_1]
    refine hK _ ⟨rfl, rfl, fun i hi => ?_⟩
    by_cases e : i = k
    · rw [e]; exact hr2
    · exact hr i (by omega)
  · intro K z hz
    obtain ⟨z1, u⟩ := z
    obtain ⟨hz1, hu, hr⟩ := hz
    dsimp only at hz1 hu hr
    subst hz1
    subst hu
    unfold w_X9_canBeDrawn_L2
    dsimp only
    rw [el]
    refine ⟨hB.1, fun _ => ⟨by omega, fun x3 hx3 => ?_⟩, fun h9 => absurd (nI_le (Nat.le_refl _) (by omega)) h9⟩
    by_cases c : zN A = 0
    · rw [if_pos c, if_neg one_ne] at hx3
      rw [hx3]
      exact ⟨Or.inl rfl, h0 (fun z => by have := z.1; omega)⟩
    · rw [if_neg c, if_pos rfl] at hx3
      rw [hx3]
      exact ⟨Or.inr rfl, h1 ⟨by omega, hr⟩⟩
theorem mm_isDrawn (w : zM A) (g : Ag A t) {a1 : Int32} {Q : Int32 → MS → Prop} (hno : v_isVoice a1 = 0 → Q 0 t) (h0 : ∀ v, v < 4 → a1 = nI v → ¬ v_isVoice a1 = 0 → ¬ zDr A v → Q 0 t) (h1 : ∀ v, v < 4 → a1 = nI v → ¬ v_isVoice a1 = 0 → zDr A v → ∀ t', Fdr t t' → Ag A t' → iM A v t' (zIt A v (zN A)) → Q 1 t') : w_isDrawn a1 t Q := by
  refine ⟨fun x u => (x = 0 ∧ u = t ∧ Q 0 t) ∨ (x = 1 ∧ u = t ∧ ∃ v, v < 4 ∧ a1 = nI v ∧ ¬ v_isVoice a1 = 0 ∧ zDr A v), fun x1 t2 hx => ?_, fun u => u = t ∧ Q 0 t, fun t6 h6 => Or.inl ⟨rfl, h6⟩, fun hz => ⟨rfl, hno hz⟩, fun hz => ?_⟩
  · rcases hx with ⟨rfl, rfl, hq⟩ | ⟨rfl, rfl, v, v1, v2, v3, v4⟩
    · exact ⟨fun t3 => t3 = t2, fun t3 h3 => ⟨Or.inl rfl, by rw [h3]; exact hq⟩, fun _ => rfl, fun z => absurd rfl z⟩
    · refine ⟨fun t3 => Q 1 t3, fun t3 h3 => ⟨Or.inr rfl, h3⟩, fun z => absurd z one_ne, fun _ => ?_⟩
      rw [v2]
      exact mm_draws w g v1 (fun t' F' g' i' => h1 v v1 v2 v3 v4 t' F' g' i')
  · obtain ⟨v, v1, v2⟩ := v_ofNN (fun z => hz (v_out.mp z))
    subst v2
    exact mm_canDraw w g v1 (fun hd => ⟨fun z => absurd z one_ne, fun _ => Or.inr ⟨rfl, rfl, v, v1, rfl, hz, hd⟩⟩) (fun hd => ⟨fun _ => ⟨rfl, h0 v v1 rfl hz hd⟩, fun z => absurd rfl z⟩)
theorem mm_isBroken (w : zM A) (hS : zMs A) (g : Ag A t) {a1 : Int32} {Q : Int32 → MS → Prop} (hno : v_isVoice a1 = 0 → Q 0 t) (h0 : ∀ v, v < 4 → a1 = nI v → ¬ v_isVoice a1 = 0 → ¬ zDr A v → Q 0 t) (h1 : ∀ v, v < 4 → a1 = nI v → ¬ v_isVoice a1 = 0 → zDr A v → ∀ t', Ag A t' → iM A v t' (zIt A v (zN A)) → lM t' (dW A v) (dm A v) (dP A) → Q 1 t') : w_isBroken a1 t Q := by
  refine mm_isDrawn w g (fun z => ⟨fun t2 => t2 = t, fun t2 h2 => ⟨Or.inl rfl, by rw [h2]; exact hno z⟩, fun _ => rfl, fun z => absurd rfl z⟩) (fun v v1 v2 v3 v4 => ⟨fun t2 => t2 = t, fun t2 h2 => ⟨Or.inl rfl, by rw [h2]; exact h0 v v1 v2 v3 v4⟩, fun _ => rfl, fun z => absurd rfl z⟩) (fun v v1 v2 v3 v4 t' F' g' i' => ⟨fun t2 => Q 1 t2, fun t2 h2 => ⟨Or.inr rfl, h2⟩, fun z => absurd z one_ne, fun _ => ?_⟩)
  obtain ⟨p1, p2⟩ := dP_ok hS
  refine mm_breaksLines (W := dW A v) (m := dm A v) (P := dP A) ⟨i'.1, (g'.1 21 (by decide)).1.trans p2, fun j hj => (i'.2 j hj).2.2.2.2⟩ (dm_ok w).1 p1 (dW_ok w v1) (fun t2 F2 l2 m2 => h1 v v1 v2 v3 v4 t2 (Ag_Fl g' F2) ?_ m2)
  unfold iM at i' ⊢
  rw [F2.1 32 (by decide), F2.2 33 (by decide) (by decide), F2.2 34 (by decide) (by decide), F2.2 35 (by decide) (by decide), F2.2 36 (by decide) (by decide), F2.2 37 (by decide) (by decide)]
  exact i'
/-- a part that was laid on pages, in the model -/
def dQ (A : MS) (v : Nat) (t : MS) : Prop := dM A v t ∧ (∀ k, 1 ≤ k → k < dL A v → t.2 44 k = nI (dE A v k)) ∧ pM t (dPg A v) (dL A v)
theorem mm_isPaged (w : zM A) (hS : zMs A) (hT : zMt A) (h26 : A.2 26 0 = 0) {np : Nat} (hnp : A.1 14 = nI np) (hnp2 : np ≤ 20) (g : Ag A t) {a1 : Int32} {Q : Int32 → MS → Prop} (hno : v_isVoice a1 = 0 → Q 0 t) (h0 : ∀ v, v < 4 → a1 = nI v → ¬ v_isVoice a1 = 0 → ¬ zDr A v → Q 0 t) (h1 : ∀ v, v < 4 → a1 = nI v → ¬ v_isVoice a1 = 0 → zDr A v → ∀ t', dQ A v t' → Q 1 t') : w_isPaged a1 t Q := by
  refine mm_isBroken w hS g (fun z => ⟨fun t2 => t2 = t, fun t2 h2 => ⟨Or.inl rfl, by rw [h2]; exact hno z⟩, fun _ => rfl, fun z => absurd rfl z⟩) (fun v v1 v2 v3 v4 => ⟨fun t2 => t2 = t, fun t2 h2 => ⟨Or.inl rfl, by rw [h2]; exact h0 v v1 v2 v3 v4⟩, fun _ => rfl, fun z => absurd rfl z⟩) (fun v v1 v2 v3 v4 t1 g1 i1 l1 => ⟨fun t2 => Q 1 t2, fun t2 h2 => ⟨Or.inr rfl, h2⟩, fun z => absurd z one_ne, fun _ => ?_⟩)
  subst v2
  have hL : ∀ x, x ∈ zPl A (zN A) → x < zN A := zPl_lt w hT (Nat.le_refl _)
  have h48 := zPl_len48 w hT (Nat.le_refl _)
  refine mm_laysPlaces w hT h26 g1 (fun t4 F4 g4 p4 => mm_laysSounds w g4 hL h48 p4 v1 (fun t5 F5 s5 => ?_))
  have g5 := Ag_Fs g4 F5
  have p5 := plM_Fs p4 F5
  have e1 : ∀ k, k ≠ 24 → t5.1 k = t1.1 k := fun k hk => (congrFun F5.1 k).trans (F4.1 k hk)
  have e2 : ∀ f, 30 < f → t5.2 f = t1.2 f := fun f hf => (F5.2.1 f (by omega)).trans (F4.2 f (by omega) (by omega))
  have d5 : dM A v t5 := by
    refine ⟨g5, ?_, ?_, p5, s5⟩
    · unfold iM at i1 ⊢
      rw [e1 32 (by decide), e2 33 (by decide), e2 34 (by decide), e2 35 (by decide), e2 36 (by decide), e2 37 (by decide)]
      exact i1
    · unfold lM at l1 ⊢
      rw [e1 38 (by decide), e2 39 (by decide), e2 40 (by decide)]
      exact l1
  obtain ⟨n1, n2, n3⟩ := dL_ok w hS v1
  have hm := dm_ok (v := v) w
  obtain ⟨r1, r2, r3⟩ := dRm_ok hS
  refine mm_breaks w hS hT v4.1 v1 hnp hnp2 d5 (fun t6 F6 d6 h44 => ?_)
  refine mm_breaksPages (E := dE A v) (R := dRm A) (n := dL A v) dE_le r2 r1 (by omega) ⟨d6.2.2.1.1, (d6.1.1 22 (by decide)).1.trans r3, h44⟩ (fun t7 F7 p7 => h1 v v1 rfl v3 v4 t7 ⟨?_, fun k k1 k2 => ?_, p7⟩)
  · obtain ⟨a1, a2, a3, a4, a5⟩ := d6
    refine ⟨⟨fun k hk => ⟨(F7.1 k (by omega)).trans (a1.1 k hk).1, (F7.2 k (by omega) (by omega)).trans (a1.1 k hk).2⟩, (congrFun (F7.2 26 (by decide) (by decide)) 0).trans a1.2⟩, ?_, ?_, ?_, ?_⟩
    · unfold iM at a2 ⊢
      rw [F7.1 32 (by decide), F7.2 33 (by decide) (by decide), F7.2 34 (by decide) (by decide), F7.2 35 (by decide) (by decide), F7.2 36 (by decide) (by decide), F7.2 37 (by decide) (by decide)]
      exact a2
    · unfold lM at a3 ⊢
      rw [F7.1 38 (by decide), F7.2 39 (by decide) (by decide), F7.2 40 (by decide) (by decide)]
      exact a3
    · unfold plM at a4 ⊢
      rw [F7.1 24 (by decide), F7.2 25 (by decide) (by decide), F7.2 26 (by decide) (by decide)]
      exact a4
    · unfold snM at a5 ⊢
      rw [F7.2 27 (by decide) (by decide), F7.2 28 (by decide) (by decide), F7.2 29 (by decide) (by decide), F7.2 30 (by decide) (by decide)]
      exact a5
  · rw [F7.2 44 (by decide) (by decide)]
    exact h44 k k1 k2
end DN
