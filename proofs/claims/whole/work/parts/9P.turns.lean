/-! TURNS, IN THE MODEL -/
/-- a turn is ahead of a page with lines that is this one or the next -/
def gPe (X : Nat → Nat) (n p : Nat) : Bool := decide (0 < (gS X n p).1 ∧ ((gS X n p).2 = 1 ∨ p % 2 = 1 ∨ gCh X n p = 0))
def gMc (X : Nat → Nat) (n p : Nat) : Nat := gTc X n p + (if gPe X n p = true then 1 else 0)
def gMl (X : Nat → Nat) (n p j : Nat) : Nat := if j < gTc X n p then gTl X n p j else (gS X n p).1
section TU
variable {X : Nat → Nat} {n : Nat} {t : MS}
theorem gTl_ok (hX : gXo X n) : ∀ p, p ≤ gNp X n (2 * n) → ∀ j, j < gTc X n p → 0 < gTl X n p j ∧ gTl X n p j < n := by
  obtain ⟨n1, n2, n3⟩ := gNp_ok hX
  intro p
  induction p with
  | zero => intro _ j hj; exact absurd hj (Nat.not_lt_zero _)
  | succ p ih =>
    intro hp j hj
    by_cases c : gIsT X n p = true
    · have e1 : gTc X n (p + 1) = gTc X n p + 1 := if_pos c
      have e2 : gTl X n (p + 1) = va_up (gTl X n p) (gTc X n p) (gS X n p).1 := if_pos c
      rw [e1] at hj
      rw [e2, va_up_at]
      by_cases e : j = gTc X n p
      · rw [if_pos e]
        exact ⟨(of_decide_eq_true c).2.1, n1 p (by omega)⟩
      · rw [if_neg e]
        exact ih (by omega) j (by omega)
    · have e1 : gTc X n (p + 1) = gTc X n p := if_neg c
      have e2 : gTl X n (p + 1) = gTl X n p := if_neg c
      rw [e1] at hj
      rw [e2]
      exact ih (by omega) j hj
/-- one page on -/
theorem gM_s (hX : gXo X n) {p : Nat} (hp : p + 1 < gNp X n (2 * n)) : (gMc X n (p + 1) = gMc X n p + (if 1 ≤ gCh X n p ∧ (p % 2 = 0 ∨ gCh X n (p + 1) = 0) then 1 else 0)) ∧ (∀ j, j < gMc X n p → gMl X n (p + 1) j = gMl X n p j) ∧ (1 ≤ gCh X n p ∧ (p % 2 = 0 ∨ gCh X n (p + 1) = 0) → gMl X n (p + 1) (gMc X n p) = (gS X n p).1 + gCh X n p) := by
  obtain ⟨n1, n2, n3⟩ := gNp_ok hX
  have hlt := n1 p (by omega)
  obtain ⟨g1, g2, g3⟩ := gS_ok hX p
  obtain ⟨x1, x2⟩ := hX (gS X n p).1 (p % 2) (gS X n p).2 hlt (by omega) g2
  have x2' : gCh X n p = 0 → (gS X n p).2 = 0 := x2
  have es := gS_s hlt
  have l1 : (gS X n (p + 1)).1 = (gS X n p).1 + gCh X n p := by rw [es]
  have l2 : (gS X n (p + 1)).2 = if gCh X n p = 0 then 1 else 0 := by rw [es]
  have eT : gIsT X n p = true ↔ 1 ≤ gCh X n p ∧ 0 < (gS X n p).1 ∧ ((gS X n p).2 = 1 ∨ p % 2 = 1) := decide_eq_true_iff
  have eP : gPe X n p = true ↔ 0 < (gS X n p).1 ∧ ((gS X n p).2 = 1 ∨ p % 2 = 1 ∨ gCh X n p = 0) := decide_eq_true_iff
  have eP1 : gPe X n (p + 1) = true ↔ 0 < (gS X n (p + 1)).1 ∧ ((gS X n (p + 1)).2 = 1 ∨ (p + 1) % 2 = 1 ∨ gCh X n (p + 1) = 0) := decide_eq_true_iff
  have c1 : gTc X n (p + 1) = if gIsT X n p = true then gTc X n p + 1 else gTc X n p := rfl
  have t1 : gTl X n (p + 1) = if gIsT X n p = true then va_up (gTl X n p) (gTc X n p) (gS X n p).1 else gTl X n p := rfl
  by_cases c : gCh X n p = 0
  · have hnT : ¬ gIsT X n p = true := fun z => by have := (eT.mp z).1; omega
    rw [if_neg hnT] at c1 t1
    rw [if_pos c] at l2
    rw [c, Nat.add_zero] at l1
    have hpe : gPe X n (p + 1) = true ↔ gPe X n p = true := by
      rw [eP, eP1, l1, l2]
      exact ⟨fun z => ⟨z.1, Or.inr (Or.inr c)⟩, fun z => ⟨z.1, Or.inl rfl⟩⟩
    refine ⟨?_, fun j hj => ?_, fun z => by omega⟩
    · unfold gMc
      rw [c1, if_neg (c := 1 ≤ gCh X n p ∧ (p % 2 = 0 ∨ gCh X n (p + 1) = 0)) (fun z => by omega)]
      by_cases q : gPe X n p = true
      · rw [if_pos q, if_pos (hpe.mpr q)]
      · rw [if_neg q, if_neg (fun z => q (hpe.mp z))]
    · unfold gMl
      rw [c1, t1, l1]
      rfl
  · rw [if_neg c] at l2
    have hTP : gIsT X n p = true ↔ gPe X n p = true := by
      rw [eT, eP]
      exact ⟨fun z => ⟨z.2.1, z.2.2.elim Or.inl (fun z => Or.inr (Or.inl z))⟩, fun z => ⟨by omega, z.1, z.2.elim Or.inl (fun z => Or.inr (z.elim id (fun z => absurd z c)))⟩⟩
    have hmc : gTc X n (p + 1) = gMc X n p := by
      unfold gMc
      rw [c1]
      by_cases q : gPe X n p = true
      · rw [if_pos (hTP.mpr q), if_pos q]
      · rw [if_neg (fun z => q (hTP.mp z)), if_neg q]
        rfl
    have hpe : gPe X n (p + 1) = true ↔ (1 ≤ gCh X n p ∧ (p % 2 = 0 ∨ gCh X n (p + 1) = 0)) := by
      rw [eP1, l1, l2]
      constructor
      · rintro ⟨_, y⟩
        refine ⟨by omega, ?_⟩
        rcases y with y | y | y
        · omega
        · exact Or.inl (by omega)
        · exact Or.inr y
      · rintro ⟨_, y⟩
        refine ⟨by omega, ?_⟩
        rcases y with y | y
        · exact Or.inr (Or.inl (by omega))
        · exact Or.inr (Or.inr y)
    refine ⟨?_, fun j hj => ?_, fun z => ?_⟩
    · have e : gMc X n (p + 1) = gTc X n (p + 1) + (if gPe X n (p + 1) = true then 1 else 0) := rfl
      rw [e, hmc]
      by_cases q : gPe X n (p + 1) = true
      · rw [if_pos q, if_pos (hpe.mp q)]
      · rw [if_neg q, if_neg (fun z => q (hpe.mpr z))]
    · unfold gMl
      rw [hmc, if_pos hj, t1]
      by_cases q : gIsT X n p = true
      · rw [if_pos q, va_up_at]
        by_cases e : j = gTc X n p
        · rw [if_pos e, if_neg (by omega)]
        · have : j < gTc X n p := by
            unfold gMc at hj
            rw [if_pos (hTP.mp q)] at hj
            omega
          rw [if_neg e, if_pos this]
      · have : j < gTc X n p := by
          unfold gMc at hj
          rw [if_neg (fun z => q (hTP.mpr z))] at hj
          exact hj
        rw [if_neg q, if_pos this]
    · unfold gMl
      rw [hmc, if_neg (Nat.lt_irrefl _), l1]
/-- at the last page -/
theorem gM_e (hX : gXo X n) {p : Nat} (hp : p + 1 = gNp X n (2 * n)) : gMc X n p = gTc X n (p + 1) ∧ ∀ j, j < gMc X n p → gMl X n p j = gTl X n (p + 1) j := by
  obtain ⟨n1, n2, n3⟩ := gNp_ok hX
  have hlt := n1 p (by omega)
  have es := gS_s hlt
  have l1 : (gS X n (p + 1)).1 = (gS X n p).1 + gCh X n p := by rw [es]
  rw [hp, n2] at l1
  have c : ¬ gCh X n p = 0 := fun z => by omega
  have eT : gIsT X n p = true ↔ 1 ≤ gCh X n p ∧ 0 < (gS X n p).1 ∧ ((gS X n p).2 = 1 ∨ p % 2 = 1) := decide_eq_true_iff
  have eP : gPe X n p = true ↔ 0 < (gS X n p).1 ∧ ((gS X n p).2 = 1 ∨ p % 2 = 1 ∨ gCh X n p = 0) := decide_eq_true_iff
  have hTP : gIsT X n p = true ↔ gPe X n p = true := by
    rw [eT, eP]
    exact ⟨fun z => ⟨z.2.1, z.2.2.elim Or.inl (fun z => Or.inr (Or.inl z))⟩, fun z => ⟨by omega, z.1, z.2.elim Or.inl (fun z => Or.inr (z.elim id (fun z => absurd z c)))⟩⟩
  have c1 : gTc X n (p + 1) = if gIsT X n p = true then gTc X n p + 1 else gTc X n p := rfl
  have t1 : gTl X n (p + 1) = if gIsT X n p = true then va_up (gTl X n p) (gTc X n p) (gS X n p).1 else gTl X n p := rfl
  rw [c1, t1]
  unfold gMc gMl
  by_cases q : gIsT X n p = true
  · rw [if_pos q, if_pos (hTP.mp q), if_pos q]
    refine ⟨rfl, fun j hj => ?_⟩
    rw [va_up_at]
    by_cases e : j = gTc X n p
    · rw [if_pos e, if_neg (by omega)]
    · rw [if_neg e, if_pos (by omega)]
  · rw [if_neg q, if_neg (fun z => q (hTP.mpr z)), if_neg q]
    refine ⟨rfl, fun j hj => ?_⟩
    rw [if_pos (by omega)]
theorem gNp_pos (h : 0 < n) (hX : gXo X n) : 0 < gNp X n (2 * n) := by
  obtain ⟨n1, n2, n3⟩ := gNp_ok hX
  refine Nat.pos_of_ne_zero (fun z => ?_)
  rw [z] at n2
  have : 0 = n := n2
  omega
theorem mm_turnsTo (hX : gXo X n) (hn : n ≤ 24) (hn0 : 0 < n) (hp : pM t X n) {a : Nat} {a2 : Int32} (ha : a < 2147483648) {Q : Int32 → MS → Prop} (h1 : ¬ a2 = 0 → Q (nI (gTc X n (gNp X n (2 * n)))) t) (h0 : a2 = 0 → a < gTc X n (gNp X n (2 * n)) ∧ Q (nI (gTl X n (gNp X n (2 * n)) a)) t) : w_turnsTo (nI a) a2 t Q := by
  obtain ⟨n1, n2, n3⟩ := gNp_ok hX
  have hnp := gNp_pos hn0 hX
  obtain ⟨p1, p2⟩ := hp
  have e41 : mgI t 41 = nI (gNp X n (2 * n)) := p1
  have e42 : ∀ p, p < gNp X n (2 * n) → mgA t 42 (nI p) = nI (gCh X n p) := fun p hp => by
    show t.2 42 (nI p).toNatClampNeg = _
    rw [nI_clamp (by omega)]
    exact p2 p hp
  have hcl : ∀ p, p < gNp X n (2 * n) → gCh X n p ≤ n := fun p hp => by
    have hlt := n1 p hp
    have es := gS_s hlt
    have l1 : (gS X n (p + 1)).1 = (gS X n p).1 + gCh X n p := by rw [es]
    have := (gS_ok hX (p + 1)).1
    omega
  have hmc : ∀ p, p < gNp X n (2 * n) → gMc X n p ≤ 48 := fun p hp => by
    have h := gTc_ok hX p
    have hlt := n1 p hp
    unfold gMc
    by_cases c : 0 < (gS X n p).1
    · have := h.2 c (by omega)
      by_cases q : gPe X n p = true
      · rw [if_pos q]; omega
      · rw [if_neg q]; omega
    · have := h.1 (by omega)
      by_cases q : gPe X n p = true
      · rw [if_pos q]; omega
      · rw [if_neg q]; omega
  refine lp_for (fun p z => z.1 = nI (gMc X n p) ∧ z.2.1 = nI (gS X n p).1 ∧ z.2.2.2 = nI p ∧ (a < gMc X n p → z.2.2.1 = nI (gMl X n p a))) (gNp X n (2 * n) - 1) ?_ ?_ 0 (Nat.zero_le _) (0, 0, -1, 0) ⟨?_, rfl, rfl, fun z => ?_⟩
  · intro p hp K z hz hK
    obtain ⟨z1, z2, z3, z4⟩ := z
    obtain ⟨hz1, hz2, hz4, hz3⟩ := hz
    dsimp only at hz1 hz2 hz3 hz4
    subst hz1
    subst hz2
    subst hz4
    obtain ⟨s1, s2, s3⟩ := gM_s hX (p := p) (by omega)
    have hlt := n1 p (by omega)
    have es := gS_s hlt
    have l1 : (gS X n (p + 1)).1 = (gS X n p).1 + gCh X n p := by rw [es]
    have hc1 := hcl p (by omega)
    have hc2 := hcl (p + 1) (by omega)
    have hm1 := hmc p (by omega)
    have hrem : mRem (nI p) 2 = nI (p % 2) := pk_rem (a := p) (d := 2) (by omega) (by decide) (by decide)
    have e0 : nI (gCh X n p) ≤ 0 ↔ gCh X n p = 0 := ⟨fun z => Classical.byContradiction fun z2 => nI_nle (n := gCh X n p) (by omega) (by omega) z, fun z => by rw [z]; decide⟩
    have e2 : nI (p % 2) = 0 ↔ p % 2 = 0 := nI_eq (b := 0) (by omega) (by decide)
    have e3 : nI (gCh X n (p + 1)) = 0 ↔ gCh X n (p + 1) = 0 := nI_eq (b := 0) (by omega) (by decide)
    have e4 : nI (gMc X n p) = nI a ↔ gMc X n p = a := nI_eq (by omega) (by omega)
    unfold w_turnsTo_L11
    dsimp only
    rw [e41, nI_1, e42 p (by omega), e42 (p + 1) (by omega), hrem, nI_add]
    refine ⟨fun h9 => absurd h9 (nI_ge (by omega) (by omega)), fun _ => ⟨vp_nI (n := 60) (by omega) (by decide), fun x3 hx3 => ⟨vp_nI (n := 60) (by omega) (by decide), fun _ _ => vp_nI (n := 60) (by omega) (by decide), fun x5 hx5 x7 hx7 x8 hx8 x9 hx9 => hK _ ⟨?_, ?_, rfl, fun hlt2 => ?_⟩⟩⟩⟩
    · have f5 : x5 = 0 ↔ ¬ (1 ≤ gCh X n p ∧ (p % 2 = 0 ∨ gCh X n (p + 1) = 0)) := by
        rw [hx5]
        by_cases q : 1 ≤ gCh X n p ∧ (p % 2 = 0 ∨ gCh X n (p + 1) = 0)
        · rw [if_pos ⟨fun z => by have := e0.mp z; omega, q.2.elim (fun z => Or.inl (e2.mpr z)) (fun z => Or.inr (e3.mpr z))⟩]
          exact ⟨fun z => absurd z one_ne, fun z => absurd q z⟩
        · rw [if_neg (fun z => q ⟨Nat.pos_of_ne_zero (fun z2 => z.1 (e0.mpr z2)), z.2.elim (fun z => Or.inl (e2.mp z)) (fun z => Or.inr (e3.mp z))⟩)]
          exact ⟨fun _ => q, fun _ => rfl⟩
      show x9 = nI (gMc X n (p + 1))
      rw [hx9, hx8, s1]
      by_cases q : 1 ≤ gCh X n p ∧ (p % 2 = 0 ∨ gCh X n (p + 1) = 0)
      · rw [if_pos (fun z => f5.mp z q), if_pos q, nI_1]
      · rw [if_neg (fun z => z (f5.mpr q)), if_neg q, show (0 : Int32) = nI 0 from rfl, nI_add]
    · show x3 = nI (gS X n (p + 1)).1
      rw [l1]
      exact hx3
    · dsimp only at hlt2 ⊢
      have f5 : x5 = 0 ↔ ¬ (1 ≤ gCh X n p ∧ (p % 2 = 0 ∨ gCh X n (p + 1) = 0)) := by
        rw [hx5]
        by_cases q : 1 ≤ gCh X n p ∧ (p % 2 = 0 ∨ gCh X n (p + 1) = 0)
        · rw [if_pos ⟨fun z => by have := e0.mp z; omega, q.2.elim (fun z => Or.inl (e2.mpr z)) (fun z => Or.inr (e3.mpr z))⟩]
          exact ⟨fun z => absurd z one_ne, fun z => absurd q z⟩
        · rw [if_neg (fun z => q ⟨Nat.pos_of_ne_zero (fun z2 => z.1 (e0.mpr z2)), z.2.elim (fun z => Or.inl (e2.mp z)) (fun z => Or.inr (e3.mp z))⟩)]
          exact ⟨fun _ => q, fun _ => rfl⟩
      by_cases c : a < gMc X n p
      · rw [if_pos (Or.inr (fun z => by have := e4.mp z; omega))] at hx7
        rw [hx7, s2 a c]
        exact hz3 c
      · by_cases q : 1 ≤ gCh X n p ∧ (p % 2 = 0 ∨ gCh X n (p + 1) = 0)
        · rw [s1, if_pos q] at hlt2
          have ea : gMc X n p = a := by omega
          rw [if_neg (fun z => z.elim (fun z => f5.mp z q) (fun z => z (e4.mpr ea)))] at hx7
          rw [hx7, ← ea, s3 q]
          exact hx3
        · rw [s1, if_neg q] at hlt2
          omega
  · intro K z hz
    obtain ⟨z1, z2, z3, z4⟩ := z
    obtain ⟨hz1, hz2, hz4, hz3⟩ := hz
    dsimp only at hz1 hz2 hz3 hz4
    subst hz1
    subst hz4
    have hpe : gNp X n (2 * n) - 1 + 1 = gNp X n (2 * n) := by omega
    obtain ⟨m1, m2⟩ := gM_e hX hpe
    rw [hpe] at m1 m2
    unfold w_turnsTo_L11
    dsimp only
    rw [e41, nI_1, hpe]
    refine ⟨fun _ x1 hx1 => ?_, fun h9 => absurd (nI_le (Nat.le_refl _) (by omega)) h9⟩
    by_cases c : a2 = 0
    · obtain ⟨y1, y2⟩ := h0 c
      rw [if_pos c, hz3 (by rw [m1]; exact y1), m2 a (by rw [m1]; exact y1)] at hx1
      rw [hx1]
      exact y2
    · rw [if_neg c, m1] at hx1
      rw [hx1]
      exact h1 c
  · show (0 : Int32) = nI (gTc X n 0 + (if gPe X n 0 = true then 1 else 0))
    rw [if_neg (fun z => absurd (of_decide_eq_true z).1 (Nat.lt_irrefl _))]
    rfl
  · have e : gMc X n 0 = 0 := by
      show gTc X n 0 + (if gPe X n 0 = true then 1 else 0) = 0
      rw [if_neg (fun z => absurd (of_decide_eq_true z).1 (Nat.lt_irrefl _))]
      rfl
    rw [e] at z
    exact absurd z (Nat.not_lt_zero _)
end TU
