/-! ITEMS OF A PART -/
/-- how many; kinds; first bars; bars; voices of cues -/
abbrev IT : Type := Nat × (Nat → Nat) × (Nat → Nat) × (Nat → Nat) × (Nat → Int32)
def iAdd (s : IT) (k f c : Nat) (u : Int32) : IT := (s.1 + 1, va_up s.2.1 s.1 k, va_up s.2.2.1 s.1 f, va_up s.2.2.2.1 s.1 c, va_up s.2.2.2.2 s.1 u)
def iSet (s : IT) (c : Nat) : IT := (s.1, s.2.1, s.2.2.1, va_up s.2.2.2.1 (s.1 - 1) c, s.2.2.2.2)
def iRest (s : IT) : Bool := decide (0 < s.1 ∧ s.2.1 (s.1 - 1) = 1)
def iEnd (s : IT) : Nat := s.2.2.1 (s.1 - 1) + s.2.2.2.1 (s.1 - 1) - 1
def iCue (A : MS) (v : Nat) (s : IT) : IT := if iRest s = true ∧ 4 ≤ s.2.2.2.1 (s.1 - 1) ∧ ¬ zQd A v (iEnd s) 4 = -1 then iAdd (iSet s (s.2.2.2.1 (s.1 - 1) - 1)) 2 (iEnd s) 1 (zQd A v (iEnd s) 4) else s
def zIt (A : MS) (v : Nat) : Nat → IT
  | 0 => (0, fun _ => 0, fun _ => 0, fun _ => 0, fun _ => -1)
  | b + 1 => if ¬ zE A v b = 0 then iAdd (iCue A v (zIt A v b)) 0 b 1 (-1) else if iRest (zIt A v b) = true ∧ ¬ zPt A b = true then iSet (zIt A v b) ((zIt A v b).2.2.2.1 ((zIt A v b).1 - 1) + 1) else iAdd (zIt A v b) 1 b 1 (-1)
/-- what holds of an item -/
def itK (A : MS) (v : Nat) (s : IT) (k : Nat) : Prop := 1 ≤ s.2.2.2.1 k ∧ k ≤ s.2.2.1 k ∧ (s.2.1 k = 0 ∧ s.2.2.2.1 k = 1 ∧ s.2.2.2.2 k = -1 ∨ s.2.1 k = 1 ∧ s.2.2.2.2 k = -1 ∨ s.2.1 k = 2 ∧ s.2.2.2.1 k = 1 ∧ ∃ u, u < 4 ∧ s.2.2.2.2 k = nI u)
def itOk (A : MS) (v b : Nat) (s : IT) : Prop := (∀ k, k < s.1 → itK A v s k) ∧ (∀ k, k + 1 < s.1 → s.2.2.1 k + s.2.2.2.1 k = s.2.2.1 (k + 1)) ∧ (0 < s.1 → s.2.2.1 (s.1 - 1) + s.2.2.2.1 (s.1 - 1) = b) ∧ (s.1 = 0 → b = 0) ∧ (0 < s.1 → s.2.2.1 0 = 0)
section IO
variable {A : MS} {v b : Nat} {s : IT}
theorem itOk_n (h : itOk A v b s) : s.1 ≤ b := by
  obtain ⟨h1, h2, h3, h4, h5⟩ := h
  by_cases e : s.1 = 0
  · omega
  · obtain ⟨a1, a2, -⟩ := h1 (s.1 - 1) (by omega)
    have := h3 (by omega)
    omega
theorem itOk_add (h : itOk A v b s) {k c : Nat} {u : Int32} (hc : 1 ≤ c) (hk : k = 0 ∧ c = 1 ∧ u = -1 ∨ k = 1 ∧ u = -1 ∨ k = 2 ∧ c = 1 ∧ ∃ x, x < 4 ∧ u = nI x) : itOk A v (b + c) (iAdd s k b c u) := by
  have hn := itOk_n h
  obtain ⟨h1, h2, h3, h4, h5⟩ := h
  refine ⟨fun j hj => ?_, fun j hj => ?_, fun _ => ?_, fun z => absurd z (Nat.succ_ne_zero _), fun _ => ?_⟩
  · have hj' : j < s.1 + 1 := hj
    unfold itK iAdd
    dsimp only
    rw [va_up_at, va_up_at, va_up_at, va_up_at]
    by_cases e : j = s.1
    · rw [if_pos e, if_pos e, if_pos e, if_pos e]
      exact ⟨hc, by omega, hk⟩
    · rw [if_neg e, if_neg e, if_neg e, if_neg e]
      exact h1 j (by omega)
  · have hj' : j + 1 < s.1 + 1 := hj
    show va_up s.2.2.1 s.1 b j + va_up s.2.2.2.1 s.1 c j = va_up s.2.2.1 s.1 b (j + 1)
    rw [va_up_at, va_up_at, va_up_at, if_neg (by omega), if_neg (by omega)]
    by_cases e : j + 1 = s.1
    · rw [if_pos e, ← h3 (by omega), show s.1 - 1 = j by omega]
    · rw [if_neg e]
      exact h2 j (by omega)
  · show va_up s.2.2.1 s.1 b (s.1 + 1 - 1) + va_up s.2.2.2.1 s.1 c (s.1 + 1 - 1) = b + c
    rw [show s.1 + 1 - 1 = s.1 by omega, va_up_at, va_up_at, if_pos rfl, if_pos rfl]
  · show va_up s.2.2.1 s.1 b 0 = 0
    rw [va_up_at]
    by_cases e : 0 = s.1
    · rw [if_pos e]
      exact h4 e.symm
    · rw [if_neg e]
      exact h5 (by omega)
theorem iRest_iff : iRest s = true ↔ 0 < s.1 ∧ s.2.1 (s.1 - 1) = 1 := decide_eq_true_iff
theorem itOk_set (h : itOk A v b s) (hr : iRest s = true) {c : Nat} (hc : 1 ≤ c) : itOk A v (s.2.2.1 (s.1 - 1) + c) (iSet s c) := by
  obtain ⟨r1, r2⟩ := iRest_iff.mp hr
  obtain ⟨h1, h2, h3, h4, h5⟩ := h
  refine ⟨fun j hj => ?_, fun j hj => ?_, fun _ => ?_, fun z => ?_, h5⟩
  · have hj' : j < s.1 := hj
    obtain ⟨a1, a2, a3⟩ := h1 j hj'
    unfold itK iSet
    dsimp only
    rw [va_up_at]
    by_cases e : j = s.1 - 1
    · rw [if_pos e]
      rw [e, r2] at a3
      refine ⟨hc, a2, Or.inr (Or.inl ?_)⟩
      rw [e]
      rcases a3 with a3 | a3 | a3
      · exact absurd a3.1 (by decide)
      · exact ⟨r2, a3.2⟩
      · exact absurd a3.1 (by decide)
    · rw [if_neg e]
      exact ⟨a1, a2, a3⟩
  · have hj' : j + 1 < s.1 := hj
    show s.2.2.1 j + va_up s.2.2.2.1 (s.1 - 1) c j = s.2.2.1 (j + 1)
    rw [va_up_at, if_neg (by omega)]
    exact h2 j hj'
  · show s.2.2.1 (s.1 - 1) + va_up s.2.2.2.1 (s.1 - 1) c (s.1 - 1) = s.2.2.1 (s.1 - 1) + c
    rw [va_up_at, if_pos rfl]
  · have z' : s.1 = 0 := z
    omega
theorem itOk_cue (h : itOk A v b s) : itOk A v b (iCue A v s) := by
  unfold iCue
  by_cases c : iRest s = true ∧ 4 ≤ s.2.2.2.1 (s.1 - 1) ∧ ¬ zQd A v (iEnd s) 4 = -1
  · rw [if_pos c]
    obtain ⟨c1, c2, c3⟩ := c
    obtain ⟨r1, r2⟩ := iRest_iff.mp c1
    have hb := h.2.2.1 r1
    have h1 := itOk_set h c1 (c := s.2.2.2.1 (s.1 - 1) - 1) (by omega)
    have e : s.2.2.1 (s.1 - 1) + (s.2.2.2.1 (s.1 - 1) - 1) = iEnd s := by unfold iEnd; omega
    rw [e] at h1
    have h2 := itOk_add h1 (k := 2) (c := 1) (u := zQd A v (iEnd s) 4) (by omega) (Or.inr (Or.inr ⟨rfl, rfl, ?_⟩))
    · rw [show iEnd s + 1 = b by unfold iEnd; omega] at h2
      exact h2
    · rcases zQd_is (A := A) (v := v) (b := iEnd s) with ⟨q1, -⟩ | ⟨u, u1, u2, -⟩
      · exact absurd q1 c3
      · exact ⟨u, u1, u2⟩
  · rw [if_neg c]
    exact h
theorem zIt_ok : ∀ b, itOk A v b (zIt A v b) := by
  intro b
  induction b with
  | zero => exact ⟨fun k hk => absurd hk (Nat.not_lt_zero _), fun k hk => absurd hk (Nat.not_lt_zero _), fun h => absurd h (Nat.lt_irrefl _), fun _ => rfl, fun h => absurd h (Nat.lt_irrefl _)⟩
  | succ b ih =>
    unfold zIt
    by_cases e : ¬ zE A v b = 0
    · rw [if_pos e]
      exact itOk_add (itOk_cue ih) (Nat.le_refl _) (Or.inl ⟨rfl, rfl, rfl⟩)
    · rw [if_neg e]
      by_cases e2 : iRest (zIt A v b) = true ∧ ¬ zPt A b = true
      · rw [if_pos e2]
        have hb := ih.2.2.1 (iRest_iff.mp e2.1).1
        have h1 := itOk_set ih e2.1 (c := (zIt A v b).2.2.2.1 ((zIt A v b).1 - 1) + 1) (by omega)
        rw [show (zIt A v b).2.2.1 ((zIt A v b).1 - 1) + ((zIt A v b).2.2.2.1 ((zIt A v b).1 - 1) + 1) = b + 1 by omega] at h1
        exact h1
      · rw [if_neg e2]
        exact itOk_add ih (Nat.le_refl _) (Or.inr (Or.inl ⟨rfl, rfl⟩))
theorem itOk_mono (h : itOk A v b s) : ∀ k j, k ≤ j → j < s.1 → s.2.2.1 k ≤ s.2.2.1 j := by
  intro k j hkj
  induction j with
  | zero => intro _; rw [show k = 0 by omega]; exact Nat.le_refl _
  | succ j ih =>
    intro hj
    by_cases e : k = j + 1
    · rw [e]; exact Nat.le_refl _
    · have h1 := ih (by omega) (by omega)
      have h2 := h.2.1 j hj
      omega
theorem itOk_end (h : itOk A v b s) {k : Nat} (hk : k < s.1) : s.2.2.1 k + s.2.2.2.1 k ≤ b := by
  by_cases e : k + 1 = s.1
  · have := h.2.2.1 (by omega)
    rw [show s.1 - 1 = k by omega] at this
    omega
  · have h1 := h.2.1 k (by omega)
    have h2 := itOk_mono h (k + 1) (s.1 - 1) (by omega) (by omega)
    have h3 := h.2.2.1 (by omega)
    omega
/-- the signs of some bars -/
def zSu (A : MS) (f : Nat) : Nat → Nat
  | 0 => 0
  | c + 1 => zSu A f c + zSg A (f + c)
def zWi (A : MS) (v : Nat) (s : IT) (k : Nat) : Nat := zSu A (s.2.2.1 k) (s.2.2.2.1 k) + (if s.2.1 k = 0 then 10 + zWe A v (s.2.2.1 k) (zE A v (s.2.2.1 k)) else if s.2.1 k = 1 then 16 + s.2.2.2.1 k else 10 + zWc A (aN (s.2.2.2.2 k)) (s.2.2.1 k) (zE A (aN (s.2.2.2.2 k)) (s.2.2.1 k)))
theorem zSg_le : zSg A b ≤ 11 := by
  unfold zSg
  have e1 : (if zNm A b = true then 3 else 0) ≤ 3 := by
    by_cases c : zNm A b = true
    · rw [if_pos c]; omega
    · rw [if_neg c]; omega
  have e2 : (if A.2 3 b = -1 then 0 else 4) ≤ 4 := by
    by_cases c : A.2 3 b = -1
    · rw [if_pos c]; omega
    · rw [if_neg c]; omega
  have e3 : (if A.2 4 b = -1 then 0 else 2) ≤ 2 := by
    by_cases c : A.2 4 b = -1
    · rw [if_pos c]; omega
    · rw [if_neg c]; omega
  have e4 : (if zEd A b = true then 2 else 0) ≤ 2 := by
    by_cases c : zEd A b = true
    · rw [if_pos c]; omega
    · rw [if_neg c]; omega
  omega
theorem zSu_le {f c : Nat} : zSu A f c ≤ 11 * c := by
  induction c with
  | zero => exact Nat.le_refl _
  | succ c ih =>
    have := zSg_le (A := A) (b := f + c)
    show zSu A f c + zSg A (f + c) ≤ _
    omega
theorem zWi_le (w : zM A) (hv : v < 4) (h : itOk A v (zN A) s) {k : Nat} (hk : k < s.1) : zWi A v s k ≤ 600 ∧ 10 ≤ zWi A v s k := by
  have hn := w.2.1
  have h1 := itOk_end h hk
  obtain ⟨a1, a2, a3⟩ := h.1 k hk
  have h2 := zSu_le (A := A) (f := s.2.2.1 k) (c := s.2.2.2.1 k)
  have hf : s.2.2.1 k < zN A := by omega
  unfold zWi
  rcases a3 with ⟨q1, q2, q3⟩ | ⟨q1, q2⟩ | ⟨q1, q2, u, q3, q4⟩
  · have h3 := zWe_le w hf hv _ (Nat.le_refl _)
    have h4 := (z_r w hf hv).1
    rw [if_pos q1]
    omega
  · rw [if_neg (by omega), if_pos q1]
    omega
  · rw [if_neg (by omega), if_neg (by omega), q4, aN_nI (by omega)]
    have h3 := zWc_le w hf q3 _ (Nat.le_refl _)
    have h4 := (z_r w hf q3).1
    omega
end IO
