/-! TURNS, IN THE MODEL -/
/-- a turn is ahead of a page with lines that is this one or the next -/
def gPe (X : Nat → Nat) (n p : Nat) : Bool := decide (0 < (gS X n p).1 ∧ ((gS X n p).2 = 1 ∨ p % 2 = 1 ∨ gCh X n p = 0))
def gMc (X : Nat → Nat) (n p : Nat) : Nat := gTc X n p + (if gPe X n p = true then 1 else 0)
def gMl (X : Nat → Nat) (n p j : Nat) : Nat := if j < gTc X n p then gTl X n p j else (gS X n p).1
section TU
variable {X : Nat → Nat} {n : Nat} {t : MS}
theorem gTl_ok (hX : gXo X n) : ∀ p, p ≤ gNp X n (2 * n) → ∀ j, j < gTc X n p → 0 < gTl X n p j ∧ gTl X n p j < n := by
  obtain ⟨n1, n2, n3⟩ := gNp_ok hX
  intro p
  induction p with
  | zero => intro _ j hj; exact absurd hj (Nat.not_lt_zero _)
  | succ p ih =>
    intro hp j hj
    by_cases c : gIsT X n p = true
    · have e1 : gTc X n (p + 1) = gTc X n p + 1 := if_pos c
      have e2 : gTl X n (p + 1) = va_up (gTl X n p) (gTc X n p) (gS X n p).1 := if_pos c
      rw [e1] at hj
      rw [e2, va_up_at]
      by_cases e : j = gTc X n p
      · rw [if_pos e]
        exact ⟨(of_decide_eq_true c).2.1, n1 p (by omega)⟩
      · rw [if_neg e]
        exact ih (by omega) j (by omega)
    · have e1 : gTc X n (p + 1) = gTc X n p := if_neg c
      have e2 : gTl X n (p + 1) = gTl X n p := if_neg c
      rw [e1] at hj
      rw [e2]
      exact ih (by omega) j hj
/-- one page on -/
theorem gM_s (hX : gXo X n) {p : Nat} (hp : p + 1 < gNp X n (2 * n)) : (gMc X n (p + 1) = gMc X n p + (if 1 ≤ gCh X n p ∧ (p % 2 = 0 ∨ gCh X n (p + 1) = 0) then 1 else 0)) ∧ (∀ j, j < gMc X n p → gMl X n (p + 1) j = gMl X n p j) ∧ (1 ≤ gCh X n p ∧ (p % 2 = 0 ∨ gCh X n (p + 1) = 0) → gMl X n (p + 1) (gMc X n p) = (gS X n p).1 + gCh X n p) := by
  obtain ⟨n1, n2, n3⟩ := gNp_ok hX
  have hlt := n1 p (by omega)
  obtain ⟨g1, g2, g3⟩ := gS_ok hX p
  obtain ⟨x1, x2⟩ := hX (gS X n p).1 (p % 2) (gS X n p).2 hlt (by omega) g2
  have x2' : gCh X n p = 0 → (gS X n p).2 = 0 := x2
  have es := gS_s hlt
  have l1 : (gS X n (p + 1)).1 = (gS X n p).1 + gCh X n p := by rw [es]
  have l2 : (gS X n (p + 1)).2 = if gCh X n p = 0 then 1 else 0 := by rw [es]
  have eT : gIsT X n p = true ↔ 1 ≤ gCh X n p ∧ 0 < (gS X n p).1 ∧ ((gS X n p).2 = 1 ∨ p % 2 = 1) := decide_eq_true_iff
  have eP : gPe X n p = true ↔ 0 < (gS X n p).1 ∧ ((gS X n p).2 = 1 ∨ p % 2 = 1 ∨ gCh X n p = 0) := decide_eq_true_iff
  have eP1 : gPe X n (p + 1) = true ↔ 0 < (gS X n (p + 1)).1 ∧ ((gS X n (p + 1)).2 = 1 ∨ (p + 1) % 2 = 1 ∨ gCh X n (p + 1) = 0) := decide_eq_true_iff
  have c1 : gTc X n (p + 1) = if gIsT X n p = true then gTc X n p + 1 else gTc X n p := rfl
  have t1 : gTl X n (p + 1) = if gIsT X n p = true then va_up (gTl X n p) (gTc X n p) (gS X n p).1 else gTl X n p := rfl
  by_cases c : gCh X n p = 0
  · have hnT : ¬ gIsT X n p = true := fun z => by have := (eT.mp z).1; omega
    rw [if_neg hnT] at c1 t1
    rw [if_pos c] at l2
    rw [c, Nat.add_zero] at l1
    have hpe : gPe X n (p + 1) = true ↔ gPe X n p = true := by
      rw [eP, eP1, l1, l2]
      exact ⟨fun z => ⟨z.1, Or.inr (Or.inr c)⟩, fun z => ⟨z.1, Or.inl rfl⟩⟩
    refine ⟨?_, fun j hj => ?_, fun z => by omega⟩
    · unfold gMc
      rw [c1, if_neg (c := 1 ≤ gCh X n p ∧ (p % 2 = 0 ∨ gCh X n (p + 1) = 0)) (fun z => by omega)]
      by_cases q : gPe X n p = true
      · rw [if_pos q, if_pos (hpe.mpr q)]
      · rw [if_neg q, if_neg (fun z => q (hpe.mp z))]
    · unfold gMl
      rw [c1, t1, l1]
      rfl
  · rw [if_neg c] at l2
    have hTP : gIsT X n p = true ↔ gPe X n p = true := by
      rw [eT, eP]
      exact ⟨fun z => ⟨z.2.1, z.2.2.elim Or.inl (fun z => Or.inr (Or.inl z))⟩, fun z => ⟨by omega, z.1, z.2.elim Or.inl (fun z => Or.inr (z.elim id (fun z => absurd z c)))⟩⟩
    have hmc : gTc X n (p + 1) = gMc X n p := by
      unfold gMc
      rw [c1]
      by_cases q : gPe X n p = true
      · rw [if_pos (hTP.mpr q), if_pos q]
      · rw [if_neg (fun z => q (hTP.mp z)), if_neg q]
        rfl
    have hpe : gPe X n (p + 1) = true ↔ (1 ≤ gCh X n p ∧ (p % 2 = 0 ∨ gCh X n (p + 1) = 0)) := by
      rw [eP1, l1, l2]
      constructor
      · rintro ⟨_, y⟩
        refine ⟨by omega, ?_⟩
        rcases y with y | y | y
        · omega
        · exact Or.inl (by omega)
        · exact Or.inr y
      · rintro ⟨_, y⟩
        refine ⟨by omega, ?_⟩
        rcases y with y | y
        · exact Or.inr (Or.inl (by omega))
        · exact Or.inr (Or.inr y)
    refine ⟨?_, fun j hj => ?_, fun z => ?_⟩
    · have e : gMc X n (p + 1) = gTc X n (p + 1) + (if gPe X n (p + 1) = true then 1 else 0) := rfl
      rw [e, hmc]
      by_cases q : gPe X n (p + 1) = true
      · rw [if_pos q, if_pos (hpe.mp q)]
      · rw [if_neg q, if_neg (fun z => q (hpe.mpr z))]
    · unfold gMl
      rw [hmc, if_pos hj, t1]
      by_cases q : gIsT X n p = true
      · rw [if_pos q, va_up_at]
        by_cases e : j = gTc X n p
        · rw [if_pos e, if_neg (by omega)]
        · have : j < gTc X n p := by
            unfold gMc at hj
            rw [if_pos (hTP.mp q)] at hj
            omega
          rw [if_neg e, if_pos this]
      · have : j < gTc X n p := by
          unfold gMc at hj
          rw [if_neg (fun z => q (hTP.mpr z))] at hj
          exact hj
        rw [if_neg q, if_pos this]
    · unfold gMl
      rw [hmc, if_neg (Nat.lt_irrefl _), l1]
/-- at the last page -/
theorem gM_e (hX : gXo X n) {p : Nat} (hp : p + 1 = gNp X n (2 * n)) : gMc X n p = gTc X n (p + 1) ∧ ∀ j, j < gMc X n p → gMl X n p j = gTl X n (p + 1) j := by
  obtain ⟨n1, n2, n3⟩ := gNp_ok hX
  have hlt := n1 p (by omega)
  have es := gS_s hlt
  have l1 : (gS X n (p + 1)).1 = (gS X n p).1 + gCh X n p := by rw [es]
  rw [hp, n2] at l1
  have c : ¬ gCh X n p = 0 := fun z => by omega
  have eT : gIsT X n p = true ↔ 1 ≤ gCh X n p ∧ 0 < (gS X n p).1 ∧ ((gS X n p).2 = 1 ∨ p % 2 = 1) := decide_eq_true_iff
  have eP : gPe X n p = true ↔ 0 < (gS X n p).1 ∧ ((gS X n p).2 = 1 ∨ p % 2 = 1 ∨ gCh X n p = 0) := decide_eq_true_iff
  have hTP : gIsT X n p = true ↔ gPe X n p = true := by
    rw [eT, eP]
    exact ⟨fun z => ⟨z.2.1, z.2.2.elim Or.inl (fun z => Or.inr (Or.inl z))⟩, fun z => ⟨by omega, z.1, z.2.elim Or.inl (fun z => Or.inr (z.elim id (fun z => absurd z c)))⟩⟩
  have c1 : gTc X n (p + 1) = if gIsT X n p = true then gTc X n p + 1 else gTc X n p := rfl
  have t1 : gTl X n (p + 1) = if gIsT X n p = true then va_up (gTl X n p) (gTc X n p) (gS X n p).1 else gTl X n p := rfl
  rw [c1, t1]
  unfold gMc gMl
  by_cases q : gIsT X n p = true
  · rw [if_pos q, if_pos (hTP.mp q), if_pos q]
    refine ⟨rfl, fun j hj => ?_⟩
    rw [va_up_at]
    by_cases e : j = gTc X n p
    · rw [if_pos e, if_neg (by omega)]
    · rw [if_neg e, if_pos (by omega)]
  · rw [if_neg q, if_neg (fun z => q (hTP.mpr z)), if_neg q]
    refine ⟨rfl, fun j hj => ?_⟩
    rw [if_pos (by omega)]
theorem gNp_pos (h : 0 < n) (hX : gXo X n) : 0 < gNp X n (2 * n) := by
  obtain ⟨n1, n2, n3⟩ := gNp_ok hX
  refine Nat.pos_of_ne_zero (fun z => ?_)
  rw [z] at n2
  have : 0 = n := n2
  omega
end TU
