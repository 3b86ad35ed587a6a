/-! THE LINE OF A BAR, THE PAGE OF A LINE, FAULTY TURNS -/
def isLn (A : MS) (v b k : Nat) : Prop := k < dL A v ∧ (k = 0 ∨ dB A v k ≤ b) ∧ ∀ j, k < j → j < dL A v → b < dB A v j
def isPg (X : Nat → Nat) (n k p : Nat) : Prop := p < gNp X n (2 * n) ∧ k < (gS X n (p + 1)).1 ∧ ∀ q, q < p → (gS X n (q + 1)).1 ≤ k
def gFt (E : Nat → Nat) (f : Nat → Nat) : Nat → Nat
  | 0 => 0
  | j + 1 => gFt E f j + (if E (f j) = 0 then 0 else 1)
section FI
variable {A t : MS} {S : CS} {q v lo pg : Nat}
theorem isLn_1 {b k k2 : Nat} (h : isLn A v b k) (g : isLn A v b k2) : k = k2 := by
  obtain ⟨h1, h2, h3⟩ := h
  obtain ⟨g1, g2, g3⟩ := g
  rcases Nat.lt_trichotomy k k2 with z | z | z
  · have := h3 k2 z g1
    omega
  · exact z
  · have := g3 k z h1
    omega
theorem isPg_1 {X : Nat → Nat} {n k p p2 : Nat} (h : isPg X n k p) (g : isPg X n k p2) : p = p2 := by
  obtain ⟨h1, h2, h3⟩ := h
  obtain ⟨g1, g2, g3⟩ := g
  rcases Nat.lt_trichotomy p p2 with z | z | z
  · have := g3 p z
    omega
  · exact z
  · have := h3 p2 z
    omega
theorem dB_mono (w : zM A) (hS : zMs A) (hv : v < 4) : ∀ j k, k ≤ j → j < dL A v → dF A v k ≤ dF A v j ∧ dB A v k ≤ dB A v j := by
  obtain ⟨n1, n2, n3⟩ := dL_ok w hS hv
  have hf : ∀ j k, k ≤ j → j < dL A v → dF A v k ≤ dF A v j := by
    intro j
    induction j with
    | zero => intro k hk _; rw [show k = 0 by omega]; exact Nat.le_refl _
    | succ j ih =>
      intro k hk hj
      by_cases e : k = j + 1
      · rw [e]; exact Nat.le_refl _
      · have h1 := ih k (by omega) (by omega)
        have h2 : dF A v j < dF A v (j + 1) := (zFi_ok (dX_ok w hS hv) j).2.2 (n1 j (by omega))
        omega
  intro j k hk hj
  exact ⟨hf j k hk hj, itOk_mono (zIt_ok (A := A) (v := v) (zN A)) _ _ (hf j k hk hj) (n1 j hj)⟩
theorem cc_lineWithBar (w : zM A) (hS : zMs A) (hv : v < 4) (hN : 0 < zN A) (hp : PrS S q v lo pg) (h : PartOK A S q v lo pg) {b : Nat} (hb : b < 1000) {B : Nat × Nat} {Q : Int32 → CS → Prop} {X : String → CS → Prop} (hQ : ∀ k, isLn A v b k → Q (nI k) S) : w_X4_lineWithBar B q (nI b) S Q X := by
  have hn := w.2.1
  obtain ⟨n1, n2, n3⟩ := dL_ok w hS hv
  have hm := dm_ok (v := v) w
  have hl0 := dL_pos w hS hv hN
  obtain ⟨p1, p2, p3, p4, p5, p6⟩ := hp
  obtain ⟨i1, -, l1, -, -⟩ := h
  have el : oG (fR S 119 q) = lo := by rw [p2]; rfl
  have e65 : fI S 65 lo = nI (dL A v) := l1.1
  have hbar : ∀ k, k < dL A v → d_X4_firstBarOfLine q (nI k) S ∧ v_X4_firstBarOfLine q (nI k) S = nI (dB A v k) ∧ dB A v k < 1000 := fun k hk => by
    have hk2 := n1 k hk
    have e64 : fA S 64 lo k = nI (dF A v k) := l1.2.1 k hk
    have ei := i1.2 (dF A v k) hk2
    have hend := itOk_end (zIt_ok (A := A) (v := v) (zN A)) hk2
    unfold d_X4_firstBarOfLine v_X4_firstBarOfLine
    rw [el, nI_clamp (show k < 2147483648 by omega), e64, nI_clamp (show dF A v k < 2147483648 by omega)]
    refine ⟨⟨p1, ne_so p2, p4, vp_nI (n := 24) (by omega) (by decide), vp_nI (n := 24) (by omega) (by decide)⟩, ei.2.1, ?_⟩
    have : dB A v k = (zIt A v (zN A)).2.2.1 (dF A v k) := rfl
    omega
  unfold w_X4_lineWithBar
  rw [el, e65]
  refine ⟨p1, ne_so p2, p4, fun x4 hx4 => ?_⟩
  have f4 : x4 = nI (dL A v - 1) := hx4.trans (pk_sub (a := dL A v) (b := 1) hl0)
  refine lp_for (fun x z => z = nI (dL A v - 1 - x) ∧ ∀ j, dL A v - 1 - x < j → j < dL A v → b < dB A v j) (dL A v - 1) ?_ ?_ 0 (Nat.zero_le _) x4 ⟨f4, fun j h1 h2 => by omega⟩
  · intro x hx K z hz hK
    obtain ⟨hz, hj⟩ := hz
    subst hz
    obtain ⟨b1, b2, b3⟩ := hbar (dL A v - 1 - x) (by omega)
    have elt : nI b < nI (dB A v (dL A v - 1 - x)) ↔ b < dB A v (dL A v - 1 - x) := nI_ltI (by omega) (by omega)
    unfold w_X4_lineWithBar_L10
    rw [b2]
    refine ⟨fun h9 => absurd h9 (nI_nle (n := dL A v - 1 - x) (by omega) (by omega)), fun _ => ⟨b1, fun hlt => hK _ ⟨?_, fun j h1 h2 => ?_⟩, fun hlt => hQ _ ⟨by omega, Or.inr (Nat.le_of_not_lt (fun z => hlt (elt.mpr z))), hj⟩⟩⟩
    · rw [show dL A v - 1 - x = (dL A v - 1 - (x + 1)) + 1 by omega, pk_m1]
    · by_cases e : j = dL A v - 1 - x
      · rw [e]
        exact elt.mp hlt
      · exact hj j (by omega) h2
  · intro K z hz
    obtain ⟨hz, hj⟩ := hz
    rw [Nat.sub_self] at hz hj
    subst hz
    unfold w_X4_lineWithBar_L10
    exact ⟨fun _ => hQ 0 ⟨hl0, Or.inl rfl, hj⟩, fun h9 => absurd (show nI 0 ≤ 0 by decide) h9⟩
theorem cc_pageWithLine {X : Nat → Nat} {n : Nat} (hX : gXo X n) (hn : n ≤ 24) (hk : kdC S pg = 6) (h : pC S pg X n) {k : Nat} (hkn : k < n) {B : Nat × Nat} {Q : Int32 → CS → Prop} {Y : String → CS → Prop} (hQ : ∀ p, isPg X n k p → Q (nI p) S) : w_X3_pageWithLine B pg (nI k) S Q Y := by
  obtain ⟨n1, n2, n3⟩ := gNp_ok hX
  obtain ⟨c1, c2, c3, c4⟩ := h
  refine lp_for (fun p z => z = nI p ∧ ∀ q, q < p → (gS X n (q + 1)).1 ≤ k) (gNp X n (2 * n)) ?_ ?_ 0 (Nat.zero_le _) 0 ⟨rfl, fun q hq => absurd hq (Nat.not_lt_zero _)⟩
  · intro p hp K z hz hK
    obtain ⟨hz, hj⟩ := hz
    subst hz
    obtain ⟨e1, e2⟩ := c3 p hp
    have es := gS_s (n1 p hp)
    have l1 : (gS X n (p + 1)).1 = (gS X n p).1 + gCh X n p := by rw [es]
    have hle := (gS_ok hX (p + 1)).1
    have ele : nI (gS X n (p + 1)).1 ≤ nI k ↔ (gS X n (p + 1)).1 ≤ k := ⟨fun z => Classical.byContradiction fun z2 => nI_ge (by omega) (by omega) z, fun z => nI_le z (by omega)⟩
    unfold w_X3_pageWithLine_L2
    rw [c1, nI_clamp (show p < 2147483648 by omega), e1, e2, nI_add, ← l1]
    refine ⟨hk, fun h9 => absurd h9 (nI_ge hp (by omega)), fun _ => ⟨vp_nI (n := 48) (by omega) (by decide), vp_nI (n := 48) (by omega) (by decide), fun hc => ?_, fun hc => hQ p ⟨hp, Nat.lt_of_not_le (fun z => hc (ele.mpr z)), hj⟩⟩⟩
    rw [nI_1]
    refine hK _ ⟨rfl, fun q hq => ?_⟩
    by_cases e : q = p
    · rw [e]
      exact ele.mp hc
    · exact hj q (by omega)
  · intro K z hz
    obtain ⟨hz, hj⟩ := hz
    exfalso
    by_cases e : gNp X n (2 * n) = 0
    · rw [e] at n2
      have : 0 = n := n2
      omega
    · have := hj (gNp X n (2 * n) - 1) (by omega)
      rw [show gNp X n (2 * n) - 1 + 1 = gNp X n (2 * n) by omega, n2] at this
      omega
theorem cc_faulty {X E : Nat → Nat} {n : Nat} (hX : gXo X n) (hn : n ≤ 24) (hk : kdC S pg = 6) (h : pC S pg X n) (h104 : ∀ k, 1 ≤ k → k < n → fA S 104 pg k = nI (E k)) (hE : ∀ k, E k ≤ 520000) {B : Nat × Nat} {Q : Int32 → CS → Prop} {Y : String → CS → Prop} (hQ : Q (nI (gFt E (gTl X n (gNp X n (2 * n))) (gTc X n (gNp X n (2 * n))))) S) : w_X3_faultyTurns B pg S Q Y := by
  obtain ⟨n1, n2, n3⟩ := gNp_ok hX
  obtain ⟨c1, c2, c3, c4⟩ := h
  have htc : gTc X n (gNp X n (2 * n)) ≤ 24 := by
    have h := gTc_ok hX (gNp X n (2 * n))
    rw [n2] at h
    by_cases c : 0 < n
    · have := h.2 c (Nat.le_refl _)
      omega
    · have := h.1 (by omega)
      omega
  refine lp_seq (fun j => (nI (gFt E (gTl X n (gNp X n (2 * n))) j), nI j)) (gTc X n (gNp X n (2 * n))) ?_ ?_ 0 (Nat.zero_le _)
  · intro j hj K hK
    obtain ⟨t1, t2⟩ := gTl_ok hX _ (Nat.le_refl _) j hj
    have he := hE (gTl X n (gNp X n (2 * n)) j)
    have e0 : nI (E (gTl X n (gNp X n (2 * n)) j)) ≤ 0 ↔ E (gTl X n (gNp X n (2 * n)) j) = 0 := ⟨fun z => Classical.byContradiction fun z2 => nI_nle (n := E (gTl X n (gNp X n (2 * n)) j)) (by omega) (by omega) z, fun z => by rw [z]; decide⟩
    unfold w_X3_faultyTurns_L4
    dsimp only
    rw [c2, nI_clamp (show j < 2147483648 by omega), c4 j hj, nI_clamp (show gTl X n (gNp X n (2 * n)) j < 2147483648 by omega), h104 _ t1 t2]
    refine ⟨hk, fun h9 => absurd h9 (nI_ge hj (by omega)), fun _ => ⟨vp_nI (n := 24) (by omega) (by decide), vp_nI (n := 24) (by omega) (by decide), fun x4 hx4 x5 hx5 => ?_⟩⟩
    have ex : x5 = nI (gFt E (gTl X n (gNp X n (2 * n))) (j + 1)) := by
      rw [hx5, hx4]
      show _ = nI (gFt E (gTl X n (gNp X n (2 * n))) j + (if E (gTl X n (gNp X n (2 * n)) j) = 0 then 0 else 1))
      by_cases c : E (gTl X n (gNp X n (2 * n)) j) = 0
      · rw [if_neg (fun z => z (e0.mpr c)), if_pos c, show (0 : Int32) = nI 0 from rfl, nI_add]
      · rw [if_pos (fun z => c (e0.mp z)), if_neg c, nI_1]
    rw [ex, nI_1]
    exact hK
  · intro K
    unfold w_X3_faultyTurns_L4
    dsimp only
    rw [c2]
    exact ⟨hk, fun _ => hQ, fun h9 => absurd (nI_le (Nat.le_refl _) (by omega)) h9⟩
end FI
