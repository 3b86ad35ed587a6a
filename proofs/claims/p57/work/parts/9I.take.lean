/-! PAGES ARE TAKEN -/
/-- the first line of a page, and whether a blank page is ahead of it -/
def gS (X : Nat → Nat) (n : Nat) : Nat → Nat × Nat
  | 0 => (0, 0)
  | p + 1 => if (gS X n p).1 < n then ((gS X n p).1 + X (gIx (gS X n p).1 (p % 2) (gS X n p).2), if X (gIx (gS X n p).1 (p % 2) (gS X n p).2) = 0 then 1 else 0) else gS X n p
def gCh (X : Nat → Nat) (n p : Nat) : Nat := X (gIx (gS X n p).1 (p % 2) (gS X n p).2)
def gNp (X : Nat → Nat) (n : Nat) : Nat → Nat
  | 0 => 0
  | f + 1 => if (gS X n f).1 < n then f + 1 else gNp X n f
def gIsT (X : Nat → Nat) (n p : Nat) : Bool := decide (1 ≤ gCh X n p ∧ 0 < (gS X n p).1 ∧ ((gS X n p).2 = 1 ∨ p % 2 = 1))
/-- turns ahead of a page, and their lines -/
def gTc (X : Nat → Nat) (n : Nat) : Nat → Nat
  | 0 => 0
  | p + 1 => if gIsT X n p = true then gTc X n p + 1 else gTc X n p
def gTl (X : Nat → Nat) (n : Nat) : Nat → Nat → Nat
  | 0 => fun _ => 0
  | p + 1 => if gIsT X n p = true then va_up (gTl X n p) (gTc X n p) (gS X n p).1 else gTl X n p
def gXo (X : Nat → Nat) (n : Nat) : Prop := ∀ l s b, l < n → s < 2 → b < 2 → l + X (gIx l s b) ≤ n ∧ (X (gIx l s b) = 0 → b = 0)
def kF (f : Nat) : Prop := 96 ≤ f ∧ f ≤ 100
/-- pages as the class keeps them -/
def pC (S : CS) (pg : Nat) (X : Nat → Nat) (n : Nat) : Prop := fI S 98 pg = nI (gNp X n (2 * n)) ∧ fI S 100 pg = nI (gTc X n (gNp X n (2 * n))) ∧ (∀ p, p < gNp X n (2 * n) → fA S 96 pg p = nI (gCh X n p) ∧ fA S 97 pg p = nI (gS X n p).1) ∧ ∀ j, j < gTc X n (gNp X n (2 * n)) → fA S 99 pg j = nI (gTl X n (gNp X n (2 * n)) j)
section TK
variable {X : Nat → Nat} {n pg : Nat} {S : CS}
theorem gS_s {p : Nat} (h : (gS X n p).1 < n) : gS X n (p + 1) = ((gS X n p).1 + gCh X n p, if gCh X n p = 0 then 1 else 0) := if_pos h
theorem gS_ok (hX : gXo X n) : ∀ p, (gS X n p).1 ≤ n ∧ (gS X n p).2 < 2 ∧ ((gS X n p).1 < n → p ≤ 2 * (gS X n p).1 + (gS X n p).2) := by
  intro p
  induction p with
  | zero => exact ⟨Nat.zero_le _, show (0 : Nat) < 2 by decide, fun _ => Nat.zero_le _⟩
  | succ p ih =>
    obtain ⟨i1, i2, i3⟩ := ih
    by_cases c : (gS X n p).1 < n
    · obtain ⟨x1, x2⟩ := hX (gS X n p).1 (p % 2) (gS X n p).2 c (by omega) i2
      have x1' : (gS X n p).1 + gCh X n p ≤ n := x1
      have x2' : gCh X n p = 0 → (gS X n p).2 = 0 := x2
      rw [gS_s c]
      dsimp only
      by_cases e : gCh X n p = 0
      · have := x2' e
        have := i3 c
        rw [if_pos e]
        omega
      · have := i3 c
        rw [if_neg e]
        omega
    · have e : gS X n (p + 1) = gS X n p := if_neg c
      rw [e]
      exact ⟨i1, i2, fun z => absurd z c⟩
theorem gS_stay {p q : Nat} (h : ¬ (gS X n p).1 < n) (hpq : p ≤ q) : gS X n q = gS X n p := by
  induction q with
  | zero => rw [show p = 0 by omega]
  | succ q ih =>
    by_cases e : p = q + 1
    · rw [e]
    · have h1 := ih (by omega)
      have e2 : gS X n (q + 1) = gS X n q := if_neg (by rw [h1]; exact h)
      rw [e2, h1]
theorem gNp_ok (hX : gXo X n) : (∀ p, p < gNp X n (2 * n) → (gS X n p).1 < n) ∧ (gS X n (gNp X n (2 * n))).1 = n ∧ gNp X n (2 * n) ≤ 2 * n := by
  have key : ∀ f, gNp X n f ≤ f ∧ (∀ k, k < gNp X n f → (gS X n k).1 < n) ∧ ∀ k, gNp X n f ≤ k → k < f → ¬ (gS X n k).1 < n := by
    intro f
    induction f with
    | zero => exact ⟨Nat.le_refl _, fun k hk => absurd hk (Nat.not_lt_zero _), fun k _ hk => absurd hk (Nat.not_lt_zero _)⟩
    | succ f ih =>
      obtain ⟨i1, i2, i3⟩ := ih
      by_cases c : (gS X n f).1 < n
      · have e : gNp X n (f + 1) = f + 1 := if_pos c
        rw [e]
        refine ⟨Nat.le_refl _, fun k hk => Classical.byContradiction fun z => ?_, fun k h1 h2 => by omega⟩
        have := gS_stay z (q := f) (by omega)
        rw [this] at c
        exact z c
      · have e : gNp X n (f + 1) = gNp X n f := if_neg c
        rw [e]
        refine ⟨by omega, i2, fun k h1 h2 => ?_⟩
        by_cases e2 : k = f
        · rw [e2]; exact c
        · exact i3 k h1 (by omega)
  obtain ⟨k1, k2, k3⟩ := key (2 * n)
  refine ⟨k2, ?_, k1⟩
  obtain ⟨g1, g2, g3⟩ := gS_ok hX (gNp X n (2 * n))
  by_cases c : (gS X n (gNp X n (2 * n))).1 < n
  · by_cases e : gNp X n (2 * n) < 2 * n
    · exact absurd c (k3 _ (Nat.le_refl _) e)
    · have := g3 c
      omega
  · omega
theorem gTc_ok (hX : gXo X n) : ∀ p, ((gS X n p).1 = 0 → gTc X n p = 0) ∧ (0 < (gS X n p).1 → p ≤ gNp X n (2 * n) → gTc X n p + 1 ≤ (gS X n p).1) := by
  intro p
  obtain ⟨n1, n2, n3⟩ := gNp_ok hX
  induction p with
  | zero => exact ⟨fun _ => rfl, fun z => absurd z (Nat.lt_irrefl _)⟩
  | succ p ih =>
    obtain ⟨i1, i2⟩ := ih
    have hT : gTc X n (p + 1) = if gIsT X n p = true then gTc X n p + 1 else gTc X n p := rfl
    by_cases c : (gS X n p).1 < n
    · rw [gS_s c, hT]
      dsimp only
      by_cases t : gIsT X n p = true
      · obtain ⟨t1, t2, t3⟩ := of_decide_eq_true t
        rw [if_pos t]
        refine ⟨fun z => by omega, fun _ h => ?_⟩
        have := i2 t2 (by omega)
        omega
      · rw [if_neg t]
        refine ⟨fun z => i1 (by omega), fun z h => ?_⟩
        by_cases e : 0 < (gS X n p).1
        · have := i2 e (by omega)
          omega
        · have := i1 (by omega)
          omega
    · have e : gS X n (p + 1) = gS X n p := if_neg c
      refine ⟨fun z => ?_, fun z h => ?_⟩
      · rw [e] at z
        rw [hT, if_neg (fun t => by have := (of_decide_eq_true t).2.1; omega)]
        exact i1 z
      · have := n1 p (by omega)
        exact absurd this c
theorem cc_take (hX : gXo X n) (hn : n ≤ 24) (hk : kdC S pg = 6) (h106 : ∀ l s b, l < n → s < 2 → b < 2 → fA S 106 pg (gIx l s b) = nI (X (gIx l s b))) {B : Nat × Nat} {Q : CS → Prop} {Y : String → CS → Prop} (hQ : ∀ S', Fo kF pg S S' → pC S' pg X n → Q S') : w_X3_takeLeastPages B pg (nI n) S Q Y := by
  obtain ⟨n1, n2, n3⟩ := gNp_ok hX
  refine ⟨hk, fun t2 h2 t3 h3 => ?_⟩
  have F3 : Fo kF pg S t3 := by
    rw [h3, h2]
    exact Fo_usI (Fo_usI Fo_rfl ⟨by decide, by decide⟩) ⟨by decide, by decide⟩
  refine lp_for (fun p z => z.1 = nI (gS X n p).1 ∧ z.2.1 = nI (gS X n p).2 ∧ Fo kF pg S z.2.2 ∧ fI z.2.2 98 pg = nI p ∧ fI z.2.2 100 pg = nI (gTc X n p) ∧ (∀ j, j < p → fA z.2.2 96 pg j = nI (gCh X n j) ∧ fA z.2.2 97 pg j = nI (gS X n j).1) ∧ ∀ j, j < gTc X n p → fA z.2.2 99 pg j = nI (gTl X n p j)) (gNp X n (2 * n)) ?_ ?_ 0 (Nat.zero_le _) (0, 0, t3) ⟨rfl, rfl, F3, ?_, ?_, fun j hj => absurd hj (Nat.not_lt_zero _), fun j hj => absurd hj (Nat.not_lt_zero _)⟩
  · intro p hp K z hz hK
    obtain ⟨z1, z2, u⟩ := z
    obtain ⟨hz1, hz2, F, e98, e100, e96, e99⟩ := hz
    dsimp only at hz1 hz2 F e98 e100 e96 e99
    subst hz1
    subst hz2
    have hlt := n1 p hp
    obtain ⟨g1, g2, g3⟩ := gS_ok hX p
    obtain ⟨x1, x2⟩ := hX (gS X n p).1 (p % 2) (gS X n p).2 hlt (by omega) g2
    have x1' : (gS X n p).1 + gCh X n p ≤ n := x1
    have hix : gIx (gS X n p).1 (p % 2) (gS X n p).2 < 100 := by unfold gIx; omega
    have hrem : mRem (nI p) 2 = nI (p % 2) := pk_rem (a := p) (d := 2) (by omega) (by decide) (by decide)
    have eX : fA u 106 pg (gIx (gS X n p).1 (p % 2) (gS X n p).2) = nI (gCh X n p) := by
      rw [(F.2 106 (by unfold kF; omega)).2]
      exact h106 _ _ _ hlt (by omega) g2
    have hturn := turn_is (l := (gS X n p).1) (s := p % 2) (b := (gS X n p).2) (by omega) (by omega) g2
    have htc := gTc_ok hX p
    have e0 : nI (gCh X n p) ≤ 0 ↔ gCh X n p = 0 := ⟨fun z => Classical.byContradiction fun z2 => nI_nle (n := gCh X n p) (by omega) (by omega) z, fun z => by rw [z]; decide⟩
    have etc : gTc X n p < 24 := by
      by_cases c : 0 < (gS X n p).1
      · have := htc.2 c (by omega)
        omega
      · have := htc.1 (by omega)
        omega
    unfold w_X3_takeLeastPages_L14
    dsimp only
    rw [e98, e100]
    refine ⟨fun h9 => ?_, fun _ x4 hx4 => ?_⟩
    · rcases h9 with h9 | h9
      · exact absurd h9 (nI_ge hlt (by omega))
      · exact absurd h9 (nI_ge (a := p) (b := 48) (by omega) (by decide))
    rw [hrem] at hx4
    subst hx4
    rw [st_is g2, nI_clamp (show gIx (gS X n p).1 (p % 2) (gS X n p).2 < 2147483648 by omega), eX]
    refine ⟨vp_nI (n := 100) hix (by decide), fun x6 hx6 => ?_⟩
    subst hx6
    refine ⟨fun t7 => Fo kF pg S t7 ∧ fI t7 98 pg = nI p ∧ fI t7 100 pg = nI (gTc X n (p + 1)) ∧ (∀ j, j < p → fA t7 96 pg j = nI (gCh X n j) ∧ fA t7 97 pg j = nI (gS X n j).1) ∧ ∀ j, j < gTc X n (p + 1) → fA t7 99 pg j = nI (gTl X n (p + 1) j), fun t7 h7 => ?_, fun hc => ?_, fun hc => ?_⟩
    · obtain ⟨F7, a98, a100, a96, a99⟩ := h7
      rw [a98]
      refine ⟨vp_nI (n := 48) (by omega) (by decide), fun t9 h9 => ?_⟩
      have b98 : fI t9 98 pg = nI p := by rw [h9]; exact a98
      rw [b98]
      refine ⟨vp_nI (n := 48) (by omega) (by decide), fun t11 h11 t12 h12 x13 hx13 x14 hx14 => hK _ ⟨?_, ?_, ?_, ?_, ?_, fun j hj => ?_, fun j hj => ?_⟩⟩
      · show x13 = nI (gS X n (p + 1)).1
        rw [gS_s hlt, hx13, nI_add]
      · show x14 = nI (gS X n (p + 1)).2
        rw [gS_s hlt, hx14]
        dsimp only
        by_cases e : gCh X n p = 0
        · rw [if_pos (by rw [e]; rfl), if_pos e]
          rfl
        · rw [if_neg (fun z => e (e0.mp (by rw [z]; decide))), if_neg e]
          rfl
      · dsimp only
        rw [h12, h11, h9]
        exact Fo_usI (Fo_usA (Fo_usA F7 ⟨by decide, by decide⟩) ⟨by decide, by decide⟩) ⟨by decide, by decide⟩
      · dsimp only
        have c98 : fI t11 98 pg = nI p := by rw [h11]; exact b98
        rw [h12, fI_at, if_pos rfl, c98, nI_1]
      · dsimp only
        rw [h12, fI_ne (by decide), h11, h9]
        exact a100
      · dsimp only
        rw [h12]
        show fA t11 96 pg j = _ ∧ fA t11 97 pg j = _
        rw [h11, fA_ne (f' := 96) (by decide), fA_at (by omega), h9, fA_at (by omega), fA_ne (f' := 97) (by decide)]
        by_cases e : j = p
        · rw [if_pos e, if_pos e, e]
          exact ⟨rfl, rfl⟩
        · rw [if_neg e, if_neg e]
          exact a96 j (by omega)
      · dsimp only
        rw [h12]
        show fA t11 99 pg j = _
        rw [h11, fA_ne (f' := 99) (by decide), h9, fA_ne (f' := 99) (by decide)]
        exact a99 j hj
    · have hno : ¬ gIsT X n p = true := fun z => by
        obtain ⟨t1, t2, t3⟩ := of_decide_eq_true z
        rcases hc with hc | hc | hc
        · have := e0.mp hc
          omega
        · exact hturn.mp hc ⟨t2, t3⟩
        · exact absurd hc (nI_ge (a := gTc X n p) (b := 24) etc (by decide))
      have e1 : gTc X n (p + 1) = gTc X n p := if_neg hno
      have e2 : gTl X n (p + 1) = gTl X n p := if_neg hno
      rw [e1, e2]
      exact ⟨F, e98, e100, e96, e99⟩
    · have hyes : gIsT X n p = true := by
        refine decide_eq_true ?_
        have h1 : ¬ gCh X n p = 0 := fun z => hc (Or.inl (e0.mpr z))
        have h2 := Classical.byContradiction fun z => hc (Or.inr (Or.inl (hturn.mpr z)))
        exact ⟨by omega, h2.1, h2.2⟩
      have e1 : gTc X n (p + 1) = gTc X n p + 1 := if_pos hyes
      have e2 : gTl X n (p + 1) = va_up (gTl X n p) (gTc X n p) (gS X n p).1 := if_pos hyes
      rw [e1, e2]
      refine ⟨vp_nI (n := 24) etc (by decide), fun t16 h16 t17 h17 => ⟨?_, ?_, ?_, fun j hj => ?_, fun j hj => ?_⟩⟩
      · rw [h17, h16]
        exact Fo_usI (Fo_usA F ⟨by decide, by decide⟩) ⟨by decide, by decide⟩
      · rw [h17, fI_ne (by decide), h16]
        exact e98
      · have : fI t16 100 pg = nI (gTc X n p) := by rw [h16]; exact e100
        rw [h17, fI_at, if_pos rfl, this, nI_1]
      · rw [h17]
        show fA t16 96 pg j = _ ∧ fA t16 97 pg j = _
        rw [h16, fA_ne (f' := 96) (by decide), fA_ne (f' := 97) (by decide)]
        exact e96 j hj
      · rw [h17]
        show fA t16 99 pg j = _
        rw [h16, fA_at (by omega), va_up_at]
        by_cases e : j = gTc X n p
        · rw [if_pos e, if_pos e]
        · rw [if_neg e, if_neg e]
          exact e99 j (by omega)
  · intro K z hz
    obtain ⟨z1, z2, u⟩ := z
    obtain ⟨hz1, hz2, F, e98, e100, e96, e99⟩ := hz
    dsimp only at hz1 hz2 F e98 e100 e96 e99
    subst hz1
    subst hz2
    unfold w_X3_takeLeastPages_L14
    dsimp only
    rw [n2]
    exact ⟨fun _ => hQ u F ⟨e98, e100, e96, e99⟩, fun h9 => absurd (Or.inl (nI_le (Nat.le_refl _) (by omega))) h9⟩
  · dsimp only
    rw [h3, fI_ne (by decide), h2, fI_at, if_pos rfl]
    rfl
  · dsimp only
    rw [h3, fI_at, if_pos rfl]
    rfl
end TK
