/-! PAGES: what they weigh -/
/-- the faults of the turn ahead of a page -/
def gTf (E : Nat → Nat) (l s b : Nat) : Nat := if 0 < l ∧ (b = 1 ∨ s = 1) then E l else 0
def gIx (l s b : Nat) : Nat := 4 * l + 2 * s + b
def gSp (R n l c : Nat) : Nat := if n ≤ l + c then 0 else R - c
/-- 64 for a fault, 1 for a page -/
def gW (E : Nat → Nat) (R n : Nat) (T : Nat → Nat) (l s b c : Nat) : Nat := 64 * (gTf E l s b + 100 * (gSp R n l c * gSp R n l c)) + 1 + T (gIx (l + c) (1 - s) 0)
def gBl (T : Nat → Nat) (l s : Nat) : Nat := 192001 + T (gIx l (1 - s) 1)
/-- the most lines of a page -/
def gC (R n l : Nat) : Nat := if n - l < R then n - l else R
/-- the best of the j fullest pages -/
def gTk (E : Nat → Nat) (R n : Nat) (T : Nat → Nat) (l s b : Nat) : Nat → Nat × Nat
  | 0 => (0, 0)
  | j + 1 => if j = 0 ∨ gW E R n T l s b (gC R n l - j) < (gTk E R n T l s b j).1 then (gW E R n T l s b (gC R n l - j), gC R n l - j) else gTk E R n T l s b j
def gAll (E : Nat → Nat) (R n : Nat) (T : Nat → Nat) (l s b : Nat) : Nat × Nat := if b = 0 ∧ gBl T l s < (gTk E R n T l s b (gC R n l)).1 then (gBl T l s, 0) else gTk E R n T l s b (gC R n l)
def gUp (E : Nat → Nat) (R n l : Nat) (t : (Nat → Nat) × (Nat → Nat)) (s b : Nat) : (Nat → Nat) × (Nat → Nat) := (va_up t.1 (gIx l s b) (gAll E R n t.1 l s b).1, va_up t.2 (gIx l s b) (gAll E R n t.1 l s b).2)
/-- for the last k lines -/
def gT (E : Nat → Nat) (R n : Nat) : Nat → (Nat → Nat) × (Nat → Nat)
  | 0 => (fun _ => 0, fun _ => 0)
  | k + 1 => gUp E R n (n - 1 - k) (gUp E R n (n - 1 - k) (gUp E R n (n - 1 - k) (gUp E R n (n - 1 - k) (gT E R n k) 0 1) 1 1) 0 0) 1 0
/-- bounds of what a state weighs -/
def gOk (E : Nat → Nat) (n l s b t : Nat) : Prop := t / 64 ≤ 530000 * (n - l) - 4000 * b ∧ t % 64 ≤ 2 * (n - l) - b ∧ gTf E l s b ≤ t / 64
section PG
variable {E : Nat → Nat} {R n : Nat} {T : Nat → Nat} {l s b : Nat}
theorem gIx_inj {l2 s2 b2 : Nat} (hs : s < 2) (hb : b < 2) (hs2 : s2 < 2) (hb2 : b2 < 2) : gIx l s b = gIx l2 s2 b2 ↔ l = l2 ∧ s = s2 ∧ b = b2 := by
  unfold gIx
  omega
theorem gTf_le (hE : ∀ k, E k ≤ 520000) : gTf E l s b ≤ 520000 := by
  unfold gTf
  by_cases c : 0 < l ∧ (b = 1 ∨ s = 1)
  · rw [if_pos c]; exact hE l
  · rw [if_neg c]; exact Nat.zero_le _
theorem gSp_le {c : Nat} (hR : R ≤ 6) (hc : 1 ≤ c) : gSp R n l c * gSp R n l c ≤ 25 := by
  have h : gSp R n l c ≤ 5 := by
    unfold gSp
    by_cases c1 : n ≤ l + c
    · rw [if_pos c1]; omega
    · rw [if_neg c1]; omega
  exact sq_le (c := 5) h
theorem gC_ok (hl : l < n) (hR : 1 ≤ R) : 1 ≤ gC R n l ∧ l + gC R n l ≤ n ∧ gC R n l ≤ R := by
  unfold gC
  by_cases c : n - l < R
  · rw [if_pos c]; omega
  · rw [if_neg c]; omega
/-- a page with lines -/
theorem gW_ok (hE : ∀ k, E k ≤ 520000) (hR : R ≤ 6) (hn : n ≤ 24) (hb : b < 2) {c : Nat} (hc : 1 ≤ c) (hlc : l + c ≤ n) (hT : l + c < n → gOk E n (l + c) (1 - s) 0 (T (gIx (l + c) (1 - s) 0))) (hT0 : l + c = n → T (gIx (l + c) (1 - s) 0) = 0) : gOk E n l s b (gW E R n T l s b c) ∧ gW E R n T l s b c / 64 ≤ 530000 * (n - l) - 4000 := by
  have h1 := gTf_le (l := l) (s := s) (b := b) hE
  have h2 := gSp_le (n := n) (l := l) hR hc
  unfold gW gOk
  by_cases e : l + c = n
  · have := hT0 e
    omega
  · obtain ⟨q1, q2, q3⟩ := hT (by omega)
    omega
theorem gBl_ok (hb : s < 2) (hn : n ≤ 24) (hl : l < n) (hT : gOk E n l (1 - s) 1 (T (gIx l (1 - s) 1))) : gOk E n l s 0 (gBl T l s) := by
  obtain ⟨q1, q2, q3⟩ := hT
  have h : gTf E l s 0 ≤ gTf E l (1 - s) 1 := by
    unfold gTf
    by_cases c : 0 < l
    · rw [if_pos (show 0 < l ∧ (1 = 1 ∨ 1 - s = 1) from ⟨c, Or.inl rfl⟩)]
      by_cases c2 : 0 < l ∧ (0 = 1 ∨ s = 1)
      · rw [if_pos c2]; exact Nat.le_refl _
      · rw [if_neg c2]; exact Nat.zero_le _
    · rw [if_neg (fun z => c z.1)]; exact Nat.zero_le _
  unfold gBl gOk
  omega
theorem gTk_ok {j : Nat} (h1 : 1 ≤ j) (hj : j ≤ gC R n l) : gC R n l - j + 1 ≤ (gTk E R n T l s b j).2 ∧ (gTk E R n T l s b j).2 ≤ gC R n l ∧ gW E R n T l s b (gTk E R n T l s b j).2 = (gTk E R n T l s b j).1 ∧ (∀ c, gC R n l - j + 1 ≤ c → c ≤ gC R n l → (gTk E R n T l s b j).1 ≤ gW E R n T l s b c) ∧ ∀ c, (gTk E R n T l s b j).2 < c → c ≤ gC R n l → (gTk E R n T l s b j).1 < gW E R n T l s b c := by
  induction j with
  | zero => omega
  | succ j ih =>
    by_cases e : j = 0
    · subst e
      have e1 : gTk E R n T l s b 1 = (gW E R n T l s b (gC R n l - 0), gC R n l - 0) := if_pos (Or.inl rfl)
      rw [e1]
      dsimp only
      rw [Nat.sub_zero]
      refine ⟨by omega, Nat.le_refl _, rfl, fun c c1 c2 => ?_, fun c c1 c2 => by omega⟩
      rw [show c = gC R n l by omega]
      exact Nat.le_refl _
    · obtain ⟨i1, i2, i3, i4, i5⟩ := ih (by omega) (by omega)
      by_cases c : gW E R n T l s b (gC R n l - j) < (gTk E R n T l s b j).1
      · have e1 : gTk E R n T l s b (j + 1) = (gW E R n T l s b (gC R n l - j), gC R n l - j) := if_pos (Or.inr c)
        rw [e1]
        dsimp only
        refine ⟨by omega, by omega, rfl, fun x x1 x2 => ?_, fun x x1 x2 => ?_⟩
        · by_cases ex : x = gC R n l - j
          · rw [ex]; exact Nat.le_refl _
          · have := i4 x (by omega) x2
            omega
        · have := i4 x (by omega) x2
          omega
      · have e1 : gTk E R n T l s b (j + 1) = gTk E R n T l s b j := if_neg (fun z => z.elim e c)
        rw [e1]
        refine ⟨by omega, i2, i3, fun x x1 x2 => ?_, i5⟩
        by_cases ex : x = gC R n l - j
        · rw [ex]; omega
        · exact i4 x (by omega) x2
/-- the choice of a state -/
theorem gAll_ok (hl : l < n) (hR : 1 ≤ R) : (∀ c, 1 ≤ c → c ≤ gC R n l → (gAll E R n T l s b).1 ≤ gW E R n T l s b c) ∧ (b = 0 → (gAll E R n T l s b).1 ≤ gBl T l s) ∧ (gAll E R n T l s b).2 ≤ gC R n l ∧ ((gAll E R n T l s b).2 = 0 → b = 0 ∧ (gAll E R n T l s b).1 = gBl T l s) ∧ (1 ≤ (gAll E R n T l s b).2 → gW E R n T l s b (gAll E R n T l s b).2 = (gAll E R n T l s b).1) ∧ ∀ c, (gAll E R n T l s b).2 < c → c ≤ gC R n l → (gAll E R n T l s b).1 < gW E R n T l s b c := by
  obtain ⟨c1, c2, c3⟩ := gC_ok hl hR
  obtain ⟨i1, i2, i3, i4, i5⟩ := gTk_ok (E := E) (R := R) (n := n) (T := T) (l := l) (s := s) (b := b) (j := gC R n l) c1 (Nat.le_refl _)
  unfold gAll
  by_cases c : b = 0 ∧ gBl T l s < (gTk E R n T l s b (gC R n l)).1
  · rw [if_pos c]
    dsimp only
    refine ⟨fun x x1 x2 => ?_, fun _ => Nat.le_refl _, Nat.zero_le _, fun _ => ⟨c.1, rfl⟩, fun z => by omega, fun x x1 x2 => ?_⟩
    · have := i4 x (by omega) x2
      omega
    · have := i4 x (by omega) x2
      omega
  · rw [if_neg c]
    refine ⟨fun x x1 x2 => i4 x (by omega) x2, fun hb => Nat.le_of_not_lt (fun z => c ⟨hb, z⟩), i2, fun z => by omega, fun _ => i3, i5⟩
theorem gUp_T (hs : s < 2) (hb : b < 2) {t : (Nat → Nat) × (Nat → Nat)} {l2 s2 b2 : Nat} (hs2 : s2 < 2) (hb2 : b2 < 2) : (gUp E R n l t s b).1 (gIx l2 s2 b2) = (if l2 = l ∧ s2 = s ∧ b2 = b then (gAll E R n t.1 l s b).1 else t.1 (gIx l2 s2 b2)) ∧ (gUp E R n l t s b).2 (gIx l2 s2 b2) = if l2 = l ∧ s2 = s ∧ b2 = b then (gAll E R n t.1 l s b).2 else t.2 (gIx l2 s2 b2) := by
  show va_up t.1 (gIx l s b) _ (gIx l2 s2 b2) = _ ∧ va_up t.2 (gIx l s b) _ (gIx l2 s2 b2) = _
  rw [va_up_at, va_up_at]
  have h := gIx_inj (l := l2) (l2 := l) hs2 hb2 hs hb
  by_cases c : l2 = l ∧ s2 = s ∧ b2 = b
  · rw [if_pos (h.mpr c), if_pos c, if_pos (h.mpr c), if_pos c]
    exact ⟨rfl, rfl⟩
  · rw [if_neg (fun z => c (h.mp z)), if_neg c, if_neg (fun z => c (h.mp z)), if_neg c]
    exact ⟨rfl, rfl⟩
/-- what is needed of a table that a state is weighed with -/
def gRd (E : Nat → Nat) (n : Nat) (T : Nat → Nat) (l : Nat) : Prop := (∀ l2 s2, l < l2 → l2 < n → s2 < 2 → gOk E n l2 s2 0 (T (gIx l2 s2 0))) ∧ ∀ s2, s2 < 2 → T (gIx n s2 0) = 0
theorem gAll_b (hE : ∀ k, E k ≤ 520000) (hR : R ≤ 6) (hR1 : 1 ≤ R) (hn : n ≤ 24) (hl : l < n) (hs : s < 2) (hb : b < 2) (hT : gRd E n T l) (hB : b = 0 → gOk E n l (1 - s) 1 (T (gIx l (1 - s) 1))) : gOk E n l s b (gAll E R n T l s b).1 := by
  obtain ⟨c1, c2, c3⟩ := gC_ok hl hR1
  obtain ⟨h1, h2, h3, h4, h5, h6⟩ := gAll_ok (E := E) (R := R) (T := T) (s := s) (b := b) hl hR1
  by_cases e : (gAll E R n T l s b).2 = 0
  · obtain ⟨e1, e2⟩ := h4 e
    rw [e2]
    have := gBl_ok (E := E) (T := T) hs hn hl (hB e1)
    rw [e1]
    exact this
  · have h7 := h5 (by omega)
    rw [← h7]
    exact (gW_ok hE hR hn hb (by omega) (by omega) (fun z => hT.1 _ _ (by omega) z (by omega)) (fun z => by rw [z]; exact hT.2 _ (by omega))).1
end PG
