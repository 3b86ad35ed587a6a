/-! P57: THE PURE HALF (3): pages and turns -/
section CQ
variable {X : Nat → Nat} {n : Nat}
theorem gS_up (hX : gXo X n) {p : Nat} (hp : p < gNp X n (2 * n)) : (gS X n (p + 1)).1 = (gS X n p).1 + gCh X n p ∧ (gS X n (p + 1)).2 = (if gCh X n p = 0 then 1 else 0) := by
  have h := gS_s ((gNp_ok hX).1 p hp)
  rw [h]
  exact ⟨rfl, rfl⟩
theorem gCh_blank (hX : gXo X n) {p : Nat} (hp : p < gNp X n (2 * n)) (h : gCh X n p = 0) : p + 1 < gNp X n (2 * n) ∧ 1 ≤ gCh X n (p + 1) := by
  obtain ⟨n1, n2, n3⟩ := gNp_ok hX
  obtain ⟨u1, u2⟩ := gS_up hX hp
  rw [if_pos h] at u2
  have hlt := n1 p hp
  have hp1 : p + 1 < gNp X n (2 * n) := by
    refine Classical.byContradiction fun z => ?_
    have e : p + 1 = gNp X n (2 * n) := by omega
    rw [e] at u1
    omega
  refine ⟨hp1, Nat.one_le_iff_ne_zero.mpr fun z => ?_⟩
  have h9 := (hX (gS X n (p + 1)).1 ((p + 1) % 2) (gS X n (p + 1)).2 (n1 (p + 1) hp1) (Nat.mod_lt _ (by decide)) (by omega)).2 z
  omega
theorem gS_mono (hX : gXo X n) {q : Nat} : ∀ p, q ≤ p → p ≤ gNp X n (2 * n) → (gS X n q).1 ≤ (gS X n p).1 := by
  intro p
  induction p with
  | zero => intro h _; rw [show q = 0 by omega]; exact Nat.le_refl _
  | succ p ih =>
    intro h hp
    by_cases e : q = p + 1
    · rw [e]
      exact Nat.le_refl _
    · have h1 := ih (by omega) (by omega)
      have h2 := (gS_up hX (p := p) (by omega)).1
      omega
theorem gM_up (hX : gXo X n) {p : Nat} : ∀ q, p ≤ q → q < gNp X n (2 * n) → gMc X n p ≤ gMc X n q ∧ ∀ j, j < gMc X n p → gMl X n q j = gMl X n p j := by
  intro q
  induction q with
  | zero => intro h _; rw [show p = 0 by omega]; exact ⟨Nat.le_refl _, fun _ _ => rfl⟩
  | succ q ih =>
    intro h hq
    by_cases e : p = q + 1
    · rw [e]
      exact ⟨Nat.le_refl _, fun _ _ => rfl⟩
    · obtain ⟨a1, a2⟩ := ih (by omega) (by omega)
      obtain ⟨b1, b2, -⟩ := gM_s hX hq
      exact ⟨by omega, fun j hj => (b2 j (by omega)).trans (a2 j hj)⟩
theorem gM_0 : gMc X n 0 = 0 := by
  unfold gMc gPe
  show 0 + (if decide (0 < 0 ∧ _) = true then 1 else 0) = 0
  rw [if_neg (fun z => absurd (of_decide_eq_true z).1 (Nat.lt_irrefl 0))]
theorem gM_last (hX : gXo X n) {p : Nat} (hp : p + 1 = gNp X n (2 * n)) : gMc X n p = gTc X n (gNp X n (2 * n)) := by
  rw [← hp]
  exact (gM_e hX hp).1
theorem gM_step (hX : gXo X n) {p : Nat} (hp : p + 1 < gNp X n (2 * n)) : gMc X n (p + 1) = gMc X n p + (if 1 ≤ gCh X n p ∧ (p % 2 = 0 ∨ gCh X n (p + 1) = 0) then 1 else 0) := (gM_s hX hp).1
/-- a turn: its number and its line -/
theorem gM_turn (hX : gXo X n) {p : Nat} (hp : p + 1 < gNp X n (2 * n)) (hc : 1 ≤ gCh X n p ∧ (p % 2 = 0 ∨ gCh X n (p + 1) = 0)) : gMc X n p < gTc X n (gNp X n (2 * n)) ∧ gTl X n (gNp X n (2 * n)) (gMc X n p) = (gS X n (p + 1)).1 := by
  obtain ⟨b1, b2, b3⟩ := gM_s hX hp
  rw [if_pos hc] at b1
  obtain ⟨N, hN⟩ : ∃ N, gNp X n (2 * n) = N + 1 := ⟨gNp X n (2 * n) - 1, by omega⟩
  obtain ⟨e1, e2⟩ := gM_e hX (p := N) hN.symm
  obtain ⟨a1, a2⟩ := gM_up hX (p := p + 1) N (by omega) (by omega)
  rw [hN]
  refine ⟨by omega, ?_⟩
  rw [← e2 _ (by omega), a2 _ (by omega), b3 hc]
  exact (gS_up hX (p := p) (by omega)).1.symm
theorem gCh_R {E : Nat → Nat} {R : Nat} (hE : ∀ k, E k ≤ 520000) (hR : R ≤ 6) (hR1 : 1 ≤ R) (hn : n ≤ 24) {p : Nat} (hp : p < gNp (gT E R n n).2 n (2 * n)) : gCh (gT E R n n).2 n p ≤ R := by
  have hX := gXo_T hE hR hR1 hn
  obtain ⟨n1, n2, n3⟩ := gNp_ok hX
  have hl := n1 p hp
  have h := (gT_ok hE hR hR1 hn n (Nat.le_refl n)).1 (gS (gT E R n n).2 n p).1 (p % 2) (gS (gT E R n n).2 n p).2 hl (Nat.mod_lt _ (by decide)) (gS_ok hX p).2.1 (by unfold gDt; omega)
  have h2 := h.2.1
  have h3 := (gC_ok hl hR1).2.2
  exact Nat.le_trans h2 h3
theorem gFt_le {E f : Nat → Nat} : ∀ c, gFt E f c ≤ c := by
  intro c
  induction c with
  | zero => exact Nat.le_refl _
  | succ c ih =>
    show gFt E f c + (if E (f c) = 0 then 0 else 1) ≤ c + 1
    by_cases e : E (f c) = 0
    · rw [if_pos e]; omega
    · rw [if_neg e]; omega
theorem gFt_mono {E f : Nat → Nat} {a : Nat} : ∀ c, a ≤ c → gFt E f a ≤ gFt E f c := by
  intro c
  induction c with
  | zero => intro h; rw [show a = 0 by omega]; exact Nat.le_refl _
  | succ c ih =>
    intro h
    by_cases e : a = c + 1
    · rw [e]; exact Nat.le_refl _
    · have := ih (by omega)
      show _ ≤ gFt E f c + _
      omega
theorem pg_last (hX : gXo X n) {k : Nat} (hk : k < gNp X n (2 * n)) (hc : 1 ≤ gCh X n k) : isPg X n ((gS X n (k + 1)).1 - 1) k := by
  obtain ⟨u1, -⟩ := gS_up hX hk
  refine ⟨hk, by omega, fun q hq => ?_⟩
  have := gS_mono hX (q := q + 1) k (by omega) (by omega)
  omega
theorem pg_next (hX : gXo X n) {k : Nat} (hk : k + 1 < gNp X n (2 * n)) (hc : 1 ≤ gCh X n (k + 1)) : isPg X n (gS X n (k + 1)).1 (k + 1) := by
  obtain ⟨u1, -⟩ := gS_up hX hk
  refine ⟨hk, by omega, fun q hq => ?_⟩
  exact gS_mono hX (q := q + 1) (k + 1) (by omega) (by omega)
theorem pg_next2 (hX : gXo X n) {k : Nat} (hk : k + 1 < gNp X n (2 * n)) (hc : gCh X n (k + 1) = 0) : isPg X n (gS X n (k + 1)).1 (k + 2) := by
  obtain ⟨b1, b2⟩ := gCh_blank hX hk hc
  obtain ⟨u1, -⟩ := gS_up hX hk
  obtain ⟨v1, -⟩ := gS_up hX b1
  have v2 : (gS X n (k + 2 + 1)).1 = (gS X n (k + 2)).1 + gCh X n (k + 2) := v1
  have b3 : 1 ≤ gCh X n (k + 2) := b2
  have u2 : (gS X n (k + 2)).1 = (gS X n (k + 1)).1 + gCh X n (k + 1) := u1
  refine ⟨b1, by omega, fun q hq => ?_⟩
  have := gS_mono hX (q := q + 1) (k + 2) (by omega) (by omega)
  by_cases e : q = k + 1
  · rw [e]
    omega
  · have := gS_mono hX (q := q + 1) (k + 1) (by omega) (by omega)
    omega
end CQ
section CR
variable {A : MS} {S : CS} {o so po v : Nat}
theorem it_lt (i j : Nat) (hij : i < j) (hj : j < dm A v) : iFb A v i < iFb A v j := by
  have ok := zIt_ok (A := A) (v := v) (zN A)
  have hj' : j < (zIt A v (zN A)).1 := hj
  have h1 := ok.2.1 i (by omega)
  have h2 := (ok.1 i (by omega)).1
  have h3 := itOk_mono ok (i + 1) j (by omega) hj'
  show (zIt A v (zN A)).2.2.1 i < (zIt A v (zN A)).2.2.1 j
  omega
theorem dF_lt (hA : rA S A o so po) (hv : v < 4) {i : Nat} : ∀ j, i < j → j < dL A v → dF A v i < dF A v j := by
  obtain ⟨p1, -⟩ := part_L hA hv
  intro j
  induction j with
  | zero => intro h; exact absurd h (Nat.not_lt_zero _)
  | succ j ih =>
    intro h hj
    have h1 := (p1 j (by omega)).1
    by_cases e : i = j
    · rw [e]
      exact h1
    · have := ih (by omega) (by omega)
      omega
theorem dB_lt (hA : rA S A o so po) (hv : v < 4) {i j : Nat} (hij : i < j) (hj : j < dL A v) : dB A v i < dB A v j := by
  obtain ⟨p1, -⟩ := part_L hA hv
  have h1 := dF_lt hA hv j hij hj
  have h2 := p1 j hj
  exact it_lt _ _ h1 (by omega)
theorem ln_at (hA : rA S A o so po) (hv : v < 4) {l : Nat} (hl : l < dL A v) : isLn A v (dB A v l) l := ⟨hl, Or.inr (Nat.le_refl _), fun _ h1 h2 => dB_lt hA hv h1 h2⟩
theorem ln_before (hA : rA S A o so po) (hv : v < 4) {l : Nat} (h1 : 1 ≤ l) (hl : l < dL A v) : isLn A v (dB A v l - 1) (l - 1) := by
  have h2 := dB_lt hA hv (i := l - 1) (j := l) (by omega) hl
  refine ⟨by omega, Or.inr (by omega), fun j h3 h4 => ?_⟩
  by_cases e : j = l
  · rw [e]
    omega
  · have := dB_lt hA hv (i := l) (j := j) (by omega) h4
    omega
/-- the place where a break is timed -/
theorem dT_at (hA : rA S A o so po) (hv : v < 4) {l : Nat} (h1 : 1 ≤ l) (hl : l < dL A v) : zFp (lP A) (dB A v l) < nP A ∧ gn (lP A) (zFp (lP A) (dB A v l)) = dB A v l ∧ (∀ q, q < zFp (lP A) (dB A v l) → gn (lP A) q ≠ dB A v l) ∧ dT A v l = zSt A (lP A) (zFp (lP A) (dB A v l)) := by
  obtain ⟨-, -, -, -, hb⟩ := dB_ok (rA_M hA) (rA_S hA).2.2.2.2 hv h1 hl
  obtain ⟨a1, a2, a3⟩ := zFp_ok (lP A) (zPl_mem (rA_M hA) hb)
  exact ⟨a1, a2, a3, rfl⟩
theorem dR_le (hA : rA S A o so po) (hv : v < 4) (l : Nat) : dR A v l ≤ eP A := zRe_le (sgm_ok hA hv)
theorem dE_bad {l : Nat} (h : dR A v l < aN (A.1 23)) : ¬ dE A v l = 0 := by
  unfold dE
  rw [if_neg (Nat.not_le.mpr h)]
  omega
theorem wanted (hA : rA S A o so po) : aN (A.1 23) ≤ 20000 ∧ A.1 23 = nI (aN (A.1 23)) := by
  obtain ⟨-, -, x, x1, x2⟩ := (rA_S hA).2.2.2.2
  rw [x2, aN_nI (by omega)]
  exact ⟨x1, rfl⟩
end CR
