/-! BREAKS AHEAD OF LINES, IN THE MODEL -/
def F44 (t t' : MS) : Prop := t'.1 = t.1 ∧ ∀ f, f ≠ 44 → t'.2 f = t.2 f
def dM (A : MS) (v : Nat) (t : MS) : Prop := Ag A t ∧ iM A v t (zIt A v (zN A)) ∧ lM t (dW A v) (dm A v) (dP A) ∧ plM A t (zPl A (zN A)) ∧ snM t v (zSs A (zPl A (zN A)) v (zPl A (zN A)).length)
section BM
variable {A t t' : MS} {v : Nat}
theorem F44_rfl : F44 t t := ⟨rfl, fun _ _ => rfl⟩
theorem F44_trans {u : MS} (h : F44 t t') (g : F44 t' u) : F44 t u := ⟨g.1.trans h.1, fun f hf => (g.2 f hf).trans (h.2 f hf)⟩
theorem dM_44 (h : dM A v t) (g : F44 t t') : dM A v t' := by
  obtain ⟨h1, h2, h3, h4, h5⟩ := h
  obtain ⟨g1, g2⟩ := g
  refine ⟨⟨fun k hk => ⟨(congrFun g1 k).trans (h1.1 k hk).1, (g2 k (by omega)).trans (h1.1 k hk).2⟩, (congrFun (g2 26 (by decide)) 0).trans h1.2⟩, ?_, ?_, ?_, ?_⟩
  · unfold iM at h2 ⊢
    rw [g1, g2 33 (by decide), g2 34 (by decide), g2 35 (by decide), g2 36 (by decide), g2 37 (by decide)]
    exact h2
  · unfold lM at h3 ⊢
    rw [g1, g2 39 (by decide), g2 40 (by decide)]
    exact h3
  · unfold plM at h4 ⊢
    rw [g1, g2 25 (by decide), g2 26 (by decide)]
    exact h4
  · unfold snM at h5 ⊢
    rw [g2 27 (by decide), g2 28 (by decide), g2 29 (by decide), g2 30 (by decide)]
    exact h5
/-- the bar ahead of a line -/
theorem mm_barAhead (w : zM A) (hS : zMs A) (hv : v < 4) (h : dM A v t) {k : Nat} (h1 : 1 ≤ k) (hk : k < dL A v) : d_barAhead (nI k) t ∧ v_barAhead (nI k) t = nI (dB A v k - 1) := by
  have hn := w.2.1
  obtain ⟨n1, n2, n3⟩ := dL_ok w hS hv
  have hm := dm_ok (v := v) w
  obtain ⟨b1, b2, b3, b4, b5⟩ := dB_ok w hS hv h1 hk
  obtain ⟨-, a2, a3, -, -⟩ := h
  have e39 : mgA t 39 (nI k) = nI (dF A v k) := by
    show t.2 39 (nI k).toNatClampNeg = _
    rw [nI_clamp (by omega)]
    exact a3.2.1 k (Nat.le_of_lt hk)
  have e1 : nI (dF A v k) - 1 = nI (dF A v k - 1) := pk_sub (a := dF A v k) (b := 1) b1
  have ei := a2.2 (dF A v k - 1) (show dF A v k - 1 < (zIt A v (zN A)).1 by unfold dm at b2; omega)
  have e34 : mgA t 34 (nI (dF A v k - 1)) = nI ((zIt A v (zN A)).2.2.1 (dF A v k - 1)) := by
    show t.2 34 (nI _).toNatClampNeg = _
    rw [nI_clamp (by omega)]
    exact ei.2.1
  have e35 : mgA t 35 (nI (dF A v k - 1)) = nI ((zIt A v (zN A)).2.2.2.1 (dF A v k - 1)) := by
    show t.2 35 (nI _).toNatClampNeg = _
    rw [nI_clamp (by omega)]
    exact ei.2.2.1
  unfold d_barAhead v_barAhead
  rw [e39, e1, e34, e35, nI_add, ← b3]
  exact ⟨⟨vp_nI (n := 25) (by omega) (by decide), vp_nI (n := 24) (by omega) (by decide), vp_nI (n := 24) (by omega) (by decide)⟩, pk_sub (a := dB A v k) (b := 1) b4⟩
theorem mm_rest (w : zM A) (hS : zMs A) (hT : zMt A) (hv : v < 4) (h : dM A v t) {k : Nat} (h1 : 1 ≤ k) (hk : k < dL A v) {Q : Int32 → MS → Prop} (hQ : Q (nI (dR A v k)) t) : w_restAt (nI v) (nI (dB A v k - 1)) t Q := by
  obtain ⟨b1, b2, b3, b4, b5⟩ := dB_ok w hS hv h1 hk
  obtain ⟨-, -, -, a4, a5⟩ := h
  have h48 := zPl_len48 w hT (Nat.le_refl _)
  have hL : ∀ x, x ∈ zPl A (zN A) → x < zN A := zPl_lt w hT (Nat.le_refl _)
  have e : dB A v k - 1 + 1 = dB A v k := by omega
  have h7 := zSs_n w hL hv (zPl A (zN A)).length (Nat.le_refl _)
  refine mm_restAt w a4 h48 hL hv a5 (sq_end w hT hv).1 (by omega) (by rw [e]; exact zPl_mem w b5) ?_
  rw [e]
  exact hQ
theorem mm_time (w : zM A) (hS : zMs A) (hT : zMt A) (hv : v < 4) (h : dM A v t) {k : Nat} (h1 : 1 ≤ k) (hk : k < dL A v) {Q : Int32 → MS → Prop} (hQ : Q (nI (dT A v k)) t) : w_timed (nI (dB A v k - 1)) t Q := by
  obtain ⟨b1, b2, b3, b4, b5⟩ := dB_ok w hS hv h1 hk
  obtain ⟨-, -, -, a4, -⟩ := h
  have h48 := zPl_len48 w hT (Nat.le_refl _)
  have hL : ∀ x, x ∈ zPl A (zN A) → x < zN A := zPl_lt w hT (Nat.le_refl _)
  have e : dB A v k - 1 + 1 = dB A v k := by omega
  refine mm_timed w a4 h48 (by rw [e]; exact zPl_mem w b5) hL ?_
  rw [e]
  exact hQ
theorem mm_breaks (w : zM A) (hS : zMs A) (hT : zMt A) (hN : 0 < zN A) (hv : v < 4) {np : Nat} (hnp : A.1 14 = nI np) (hnp2 : np ≤ 20) (h : dM A v t) {J : MS → Prop} (hQ : ∀ t', F44 t t' → dM A v t' → (∀ k, 1 ≤ k → k < dL A v → t'.2 44 k = nI (dE A v k)) → w_breaksPages t' J) : ∃ n, lp (w_isPaged_L21 (nI v) J) n (1, t) := by
  have hn := w.2.1
  obtain ⟨n1, n2, n3⟩ := dL_ok w hS hv
  have hm := dm_ok (v := v) w
  obtain ⟨-, -, x, x2, x3⟩ := id hS
  refine lp_for (fun k z => z.1 = nI k ∧ 1 ≤ k ∧ F44 t z.2 ∧ ∀ j, 1 ≤ j → j < k → z.2.2 44 j = nI (dE A v j)) (dL A v) ?_ ?_ 1 (dL_pos w hS hv hN) (1, t) ⟨rfl, Nat.le_refl _, F44_rfl, fun j h1 h2 => by omega⟩
  · intro k hk K z hz hK
    obtain ⟨z1, u⟩ := z
    obtain ⟨hz1, hk1, F, hj⟩ := hz
    dsimp only at hz1 F hj
    subst hz1
    have hu := dM_44 h F
    obtain ⟨b1, b2, b3, b4, b5⟩ := dB_ok w hS hv hk1 hk
    obtain ⟨d1, d2⟩ := mm_barAhead w hS hv hu hk1 hk
    have e38 : mgI u 38 = nI (dL A v) := hu.2.2.1.1
    obtain ⟨q1, q2⟩ := sq_end w hT hv
    have hdR : dR A v k ≤ 9216000 := Nat.le_trans (zRe_le q1) q2
    unfold w_isPaged_L21
    dsimp only
    rw [e38, d2]
    refine ⟨fun h9 => absurd h9 (nI_ge hk (by omega)), fun _ => ⟨d1, fun x8 hx8 => ?_⟩⟩
    subst hx8
    refine mm_rest w hS hT hv hu hk1 hk (fun x10 hx10 => ?_)
    refine mm_inPhrase w hu.1 hnp hnp2 hv (by omega) (fun x12 hx12 => ⟨vp_nI (n := 25) (by omega) (by decide), fun t14 h14 => ?_⟩)
    have e23 : aN (A.1 23) = x := by rw [x3, aN_nI (by omega)]
    have e23' : mgI u 23 = nI x := ((hu.1.1 23 (by decide)).1).trans x3
    have f10 : x10 = nI (if aN (A.1 23) ≤ dR A v k then 0 else 20000) := by
      rw [hx10, e23', e23]
      have ele : nI x ≤ nI (dR A v k) ↔ x ≤ dR A v k := ⟨fun z => Classical.byContradiction fun z2 => nI_ge (by omega) (by omega) z, fun z => nI_le z (by omega)⟩
      by_cases c : x ≤ dR A v k
      · rw [if_pos (ele.mpr c), if_pos c]
        rfl
      · rw [if_neg (fun z => c (ele.mp z)), if_neg c]
        rfl
    have f12 : x12 = nI (if zFb A v (dB A v k - 1) = true then 500000 else 0) := by
      rw [hx12]
      by_cases c : zFb A v (dB A v k - 1) = true
      · rw [if_neg (fun z => bI_0.mp z c), if_pos c]
        rfl
      · rw [if_pos (bI_0.mpr c), if_neg c]
        rfl
    rw [nI_1]
    refine hK _ ⟨rfl, by omega, ?_, fun j j1 j2 => ?_⟩
    · dsimp only
      rw [h14]
      exact ⟨F.1, fun f hf => (mA_ne hf).trans (F.2 f hf)⟩
    · dsimp only
      rw [h14, mA_at (by omega)]
      by_cases e : j = k
      · rw [if_pos e, f10, f12, nI_add, e]
        rfl
      · rw [if_neg e]
        exact hj j j1 (by omega)
  · intro K z hz
    obtain ⟨z1, u⟩ := z
    obtain ⟨hz1, hk1, F, hj⟩ := hz
    dsimp only at hz1 F hj
    subst hz1
    have hu := dM_44 h F
    have e38 : mgI u 38 = nI (dL A v) := hu.2.2.1.1
    unfold w_isPaged_L21
    dsimp only
    rw [e38]
    exact ⟨fun _ => hQ u F hu hj, fun h9 => absurd (nI_le (Nat.le_refl _) (by omega)) h9⟩
end BM
