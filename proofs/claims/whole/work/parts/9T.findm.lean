/-! THE PAGE OF A BAR AND FAULTY TURNS, IN THE MODEL -/
section FM
variable {A t : MS} {v : Nat}
theorem mm_pageLoop {X : Nat → Nat} {n : Nat} (hX : gXo X n) (hn : n ≤ 24) (h : pM t X n) {k : Nat} (hkn : k < n) {Q : Int32 → MS → Prop} (hQ : ∀ p, isPg X n k p → Q (nI p) t) : (vp_in 0 (m_len 42)) ∧ ∀ x6 : Int32, x6 = (mgA t 42 0) → ∃ n, lp (w_pageOf_L74 Q t (nI k)) n (0, x6) := by
  obtain ⟨n1, n2, n3⟩ := gNp_ok hX
  have hnp := gNp_pos (by omega) hX
  obtain ⟨p1, p2⟩ := h
  have e42 : ∀ p, p < gNp X n (2 * n) → mgA t 42 (nI p) = nI (gCh X n p) := fun p hp => by
    show t.2 42 (nI p).toNatClampNeg = _
    rw [nI_clamp (by omega)]
    exact p2 p hp
  refine ⟨vp_nI (n := 60) (k := 0) (by decide) (by decide), fun x6 hx6 => ?_⟩
  have f6 : x6 = nI (gS X n 1).1 := by
    rw [gS_s (n1 0 hnp), hx6]
    have := e42 0 hnp
    show _ = nI (0 + gCh X n 0)
    rw [Nat.zero_add]
    exact this
  refine lp_for (fun p z => z.1 = nI p ∧ z.2 = nI (gS X n (p + 1)).1 ∧ ∀ q, q < p → (gS X n (q + 1)).1 ≤ k) (gNp X n (2 * n) - 1) ?_ ?_ 0 (Nat.zero_le _) (0, x6) ⟨rfl, f6, fun q hq => absurd hq (Nat.not_lt_zero _)⟩
  · intro p hp K z hz hK
    obtain ⟨z1, z2⟩ := z
    obtain ⟨hz1, hz2, hj⟩ := hz
    dsimp only at hz1 hz2
    subst hz1
    subst hz2
    have hle := (gS_ok hX (p + 1)).1
    have elt : nI k < nI (gS X n (p + 1)).1 ↔ k < (gS X n (p + 1)).1 := nI_ltI (by omega) (by omega)
    unfold w_pageOf_L74
    dsimp only
    rw [nI_1, e42 (p + 1) (by omega), nI_add]
    refine ⟨fun hc => hQ p ⟨by omega, elt.mp hc, hj⟩, fun hc => ⟨vp_nI (n := 60) (by omega) (by decide), fun x8 hx8 => hK _ ⟨rfl, ?_, fun q hq => ?_⟩⟩⟩
    · show x8 = nI (gS X n (p + 1 + 1)).1
      rw [gS_s (n1 (p + 1) (by omega)), hx8]
    · by_cases e : q = p
      · rw [e]
        exact Nat.le_of_not_lt (fun z => hc (elt.mpr z))
      · exact hj q (by omega)
  · intro K z hz
    obtain ⟨z1, z2⟩ := z
    obtain ⟨hz1, hz2, hj⟩ := hz
    dsimp only at hz1 hz2
    subst hz1
    subst hz2
    have hpe : gNp X n (2 * n) - 1 + 1 = gNp X n (2 * n) := by omega
    unfold w_pageOf_L74
    dsimp only
    rw [hpe, n2]
    exact ⟨fun _ => hQ _ ⟨by omega, by rw [hpe, n2]; exact hkn, hj⟩, fun h9 => absurd (nI_lt hkn (by omega)) h9⟩
theorem mm_pageOf (w : zM A) (hS : zMs A) (hv : v < 4) (hN : 0 < zN A) (h : dQ A v t) {b : Nat} (hb : b < 1000) {Q : Int32 → MS → Prop} (hQ : ∀ k p, isLn A v b k → isPg (dPg A v) (dL A v) k p → Q (nI p) t) : ∃ n, lp (w_pageOf_L28 (nI b) Q t) n 0 := by
  obtain ⟨n1, n2, n3⟩ := dL_ok w hS hv
  have hn := w.2.1
  have hm := dm_ok (v := v) w
  have hl0 := dL_pos w hS hv hN
  obtain ⟨r1, r2, r3⟩ := dRm_ok hS
  have hX : gXo (dPg A v) (dL A v) := gXo_T dE_le r2 r1 (by omega)
  obtain ⟨⟨-, a2, a3, -, -⟩, -, hp⟩ := h
  have e38 : mgI t 38 = nI (dL A v) := a3.1
  have hbar : ∀ k, k < dL A v → mgA t 39 (nI k) = nI (dF A v k) ∧ mgA t 34 (nI (dF A v k)) = nI (dB A v k) ∧ dB A v k < 1000 := fun k hk => by
    have hk2 := n1 k hk
    have hend := itOk_end (zIt_ok (A := A) (v := v) (zN A)) hk2
    refine ⟨?_, ?_, ?_⟩
    · show t.2 39 (nI k).toNatClampNeg = _
      rw [nI_clamp (by omega)]
      exact a3.2.1 k (Nat.le_of_lt hk)
    · show t.2 34 (nI _).toNatClampNeg = _
      rw [nI_clamp (by omega)]
      exact (a2.2 _ hk2).2.1
    · have : dB A v k = (zIt A v (zN A)).2.2.1 (dF A v k) := rfl
      omega
  refine lp_for (fun k z => z = nI k ∧ (k = 0 ∨ dB A v k ≤ b)) (dL A v - 1) ?_ ?_ 0 (Nat.zero_le _) 0 ⟨rfl, Or.inl rfl⟩
  · intro k hk K z hz hK
    obtain ⟨hz, hkb⟩ := hz
    subst hz
    obtain ⟨b1, b2, b3⟩ := hbar (k + 1) (by omega)
    have hk2 := n1 (k + 1) (by omega)
    have elt : nI b < nI (dB A v (k + 1)) ↔ b < dB A v (k + 1) := nI_ltI (by omega) (by omega)
    unfold w_pageOf_L28
    rw [e38, nI_1, b1, b2]
    refine ⟨fun _ => vp_nI (n := 25) (by omega) (by decide), fun _ => vp_nI (n := 24) (by omega) (by decide), fun hc => ?_, fun hc => hK _ ⟨rfl, Or.inr (Nat.le_of_not_lt (fun z => hc (Or.inr (elt.mpr z))))⟩⟩
    have hlt : b < dB A v (k + 1) := by
      rcases hc with hc | hc
      · exact absurd hc (nI_ge (by omega) (by omega))
      · exact elt.mp hc
    refine mm_pageLoop hX (by omega) hp (by omega) (fun p hpg => hQ k p ⟨by omega, hkb, fun j h1 h2 => ?_⟩ hpg)
    have := (dB_mono w hS hv j (k + 1) h1 h2).2
    omega
  · intro K z hz
    obtain ⟨hz, hkb⟩ := hz
    subst hz
    have hpe : dL A v - 1 + 1 = dL A v := by omega
    unfold w_pageOf_L28
    rw [e38, nI_1, hpe]
    refine ⟨fun z => absurd (nI_le (Nat.le_refl _) (by omega)) z, fun z => absurd (nI_le (Nat.le_refl _) (by omega)) z, fun _ => ?_, fun z => absurd (Or.inl (nI_le (Nat.le_refl _) (by omega))) z⟩
    exact mm_pageLoop hX (by omega) hp (by omega) (fun p hpg => hQ _ p ⟨by omega, hkb, fun j h1 h2 => by omega⟩ hpg)
theorem mm_badTurns (w : zM A) (hS : zMs A) (hv : v < 4) (hN : 0 < zN A) (h : dQ A v t) {Q : Int32 → MS → Prop} (hQ : Q (nI (gFt (dE A v) (gTl (dPg A v) (dL A v) (gNp (dPg A v) (dL A v) (2 * dL A v))) (gTc (dPg A v) (dL A v) (gNp (dPg A v) (dL A v) (2 * dL A v))))) t) : ∃ n, lp (w_badTurns_L26 Q) n (0, 0, t) := by
  obtain ⟨n1, n2, n3⟩ := dL_ok w hS hv
  have hn := w.2.1
  have hm := dm_ok (v := v) w
  have hl0 := dL_pos w hS hv hN
  obtain ⟨r1, r2, r3⟩ := dRm_ok hS
  have hX : gXo (dPg A v) (dL A v) := gXo_T dE_le r2 r1 (by omega)
  obtain ⟨g1, g2, g3⟩ := gNp_ok hX
  obtain ⟨-, h44, hp⟩ := h
  have htc : gTc (dPg A v) (dL A v) (gNp (dPg A v) (dL A v) (2 * dL A v)) ≤ 24 := by
    have h := gTc_ok hX (gNp (dPg A v) (dL A v) (2 * dL A v))
    rw [g2] at h
    have := h.2 hl0 (Nat.le_refl _)
    omega
  refine lp_seq (fun j => (nI (gFt (dE A v) (gTl (dPg A v) (dL A v) (gNp (dPg A v) (dL A v) (2 * dL A v))) j), nI j, t)) (gTc (dPg A v) (dL A v) (gNp (dPg A v) (dL A v) (2 * dL A v))) ?_ ?_ 0 (Nat.zero_le _)
  · intro j hj K hK
    obtain ⟨t1, t2⟩ := gTl_ok hX _ (Nat.le_refl _) j hj
    have he := dE_le (A := A) (v := v) (gTl (dPg A v) (dL A v) (gNp (dPg A v) (dL A v) (2 * dL A v)) j)
    have e0 : nI (dE A v (gTl (dPg A v) (dL A v) (gNp (dPg A v) (dL A v) (2 * dL A v)) j)) ≤ 0 ↔ dE A v (gTl (dPg A v) (dL A v) (gNp (dPg A v) (dL A v) (2 * dL A v)) j) = 0 := ⟨fun z => Classical.byContradiction fun z2 => nI_nle (n := dE A v (gTl (dPg A v) (dL A v) (gNp (dPg A v) (dL A v) (2 * dL A v)) j)) (by omega) (by omega) z, fun z => by rw [z]; decide⟩
    refine mm_turnsTo (a := 0) hX (by omega) hl0 hp (by omega) (fun _ => ⟨fun h9 => absurd h9 (nI_ge hj (by omega)), fun _ => ?_⟩) (fun z => absurd z one_ne)
    refine mm_turnsTo (a := j) hX (by omega) hl0 hp (by omega) (fun z => absurd rfl z) (fun _ => ⟨hj, vp_nI (n := 25) (by omega) (by decide), fun x6 hx6 x7 hx7 => ?_⟩)
    have e44 : mgA t 44 (nI (gTl (dPg A v) (dL A v) (gNp (dPg A v) (dL A v) (2 * dL A v)) j)) = nI (dE A v (gTl (dPg A v) (dL A v) (gNp (dPg A v) (dL A v) (2 * dL A v)) j)) := by
      show t.2 44 (nI _).toNatClampNeg = _
      rw [nI_clamp (by omega)]
      exact h44 _ t1 t2
    have ex : x7 = nI (gFt (dE A v) (gTl (dPg A v) (dL A v) (gNp (dPg A v) (dL A v) (2 * dL A v))) (j + 1)) := by
      rw [hx7, hx6, e44]
      show _ = nI (gFt (dE A v) (gTl (dPg A v) (dL A v) (gNp (dPg A v) (dL A v) (2 * dL A v))) j + (if dE A v (gTl (dPg A v) (dL A v) (gNp (dPg A v) (dL A v) (2 * dL A v)) j) = 0 then 0 else 1))
      by_cases c : dE A v (gTl (dPg A v) (dL A v) (gNp (dPg A v) (dL A v) (2 * dL A v)) j) = 0
      · rw [if_neg (fun z => z (e0.mpr c)), if_pos c, show (0 : Int32) = nI 0 from rfl, nI_add]
      · rw [if_pos (fun z => c (e0.mp z)), if_neg c, nI_1]
    dsimp only
    rw [ex, nI_1]
    exact hK
  · intro K
    refine mm_turnsTo (a := 0) hX (by omega) hl0 hp (by omega) (fun _ => ⟨fun _ => hQ, fun h9 => absurd (nI_le (Nat.le_refl _) (by omega)) h9⟩) (fun z => absurd z one_ne)
end FM
