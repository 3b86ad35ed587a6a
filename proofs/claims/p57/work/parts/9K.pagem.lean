/-! THE MODEL WEIGHS PAGES -/
def F43 (t t' : MS) : Prop := t'.1 = t.1 ∧ ∀ f, f ≠ 43 → t'.2 f = t.2 f
/-- what pages are laid of -/
def pgI (t : MS) (E : Nat → Nat) (R n : Nat) : Prop := t.1 38 = nI n ∧ t.1 22 = nI R ∧ ∀ l, 1 ≤ l → l < n → t.2 44 l = nI (E l)
def pgM (t : MS) (E : Nat → Nat) (n : Nat) (T : (Nat → Nat) × (Nat → Nat)) (D : Nat → Nat → Nat → Prop) : Prop := ∀ l s b, l < n → s < 2 → b < 2 → D l s b → t.2 43 (gIx l s b) = nI (T.1 (gIx l s b) - 64 * gTf E l s b)
def gMn (E : Nat → Nat) (R n : Nat) (T : Nat → Nat) (l s b x : Nat) : Nat → Nat
  | 0 => x
  | c + 1 => if gMn E R n T l s b x c ≤ gW E R n T l s b (c + 1) then gMn E R n T l s b x c else gW E R n T l s b (c + 1)
def gX0 (E : Nat → Nat) (T : Nat → Nat) (l s b : Nat) : Nat := if b = 0 then gBl T l s else 2000000000 + 64 * gTf E l s b
section PM
variable {E : Nat → Nat} {R n : Nat} {T : (Nat → Nat) × (Nat → Nat)} {D : Nat → Nat → Nat → Prop} {l s b : Nat} {t t' : MS}
theorem F43_rfl : F43 t t := ⟨rfl, fun _ _ => rfl⟩
theorem F43_trans {u : MS} (h : F43 t t') (g : F43 t' u) : F43 t u := ⟨g.1.trans h.1, fun f hf => (g.2 f hf).trans (h.2 f hf)⟩
theorem pgI_43 (h : pgI t E R n) (g : F43 t t') : pgI t' E R n := by
  unfold pgI at h ⊢
  rw [g.1, g.2 44 (by decide)]
  exact h
theorem gMn_ok {T : Nat → Nat} {x : Nat} : ∀ C, gMn E R n T l s b x C ≤ x ∧ (∀ c, 1 ≤ c → c ≤ C → gMn E R n T l s b x C ≤ gW E R n T l s b c) ∧ (gMn E R n T l s b x C = x ∨ ∃ c, 1 ≤ c ∧ c ≤ C ∧ gMn E R n T l s b x C = gW E R n T l s b c) := by
  intro C
  induction C with
  | zero => exact ⟨Nat.le_refl _, fun c h1 h2 => by omega, Or.inl rfl⟩
  | succ C ih =>
    obtain ⟨i1, i2, i3⟩ := ih
    have e : gMn E R n T l s b x (C + 1) = if gMn E R n T l s b x C ≤ gW E R n T l s b (C + 1) then gMn E R n T l s b x C else gW E R n T l s b (C + 1) := rfl
    rw [e]
    by_cases c : gMn E R n T l s b x C ≤ gW E R n T l s b (C + 1)
    · rw [if_pos c]
      refine ⟨i1, fun y y1 y2 => ?_, ?_⟩
      · by_cases ey : y = C + 1
        · rw [ey]; exact c
        · exact i2 y y1 (by omega)
      · rcases i3 with z | ⟨y, y1, y2, y3⟩
        · exact Or.inl z
        · exact Or.inr ⟨y, y1, by omega, y3⟩
    · rw [if_neg c]
      refine ⟨by omega, fun y y1 y2 => ?_, Or.inr ⟨C + 1, by omega, Nat.le_refl _, rfl⟩⟩
      by_cases ey : y = C + 1
      · rw [ey]; exact Nat.le_refl _
      · have := i2 y y1 (by omega)
        omega
theorem gMn_is (hE : ∀ k, E k ≤ 520000) (hR : R ≤ 6) (hR1 : 1 ≤ R) (hn : n ≤ 24) (hl : l < n) (hb : b < 2) {T : Nat → Nat} (hT : gRd E n T l) (hs : s < 2) : gMn E R n T l s b (gX0 E T l s b) (gC R n l) = (gAll E R n T l s b).1 := by
  obtain ⟨c1, c2, c3⟩ := gC_ok hl hR1
  obtain ⟨q1, q2, q3, q4, q5, q6⟩ := gAll_ok (E := E) (R := R) (T := T) (s := s) (b := b) hl hR1
  obtain ⟨m1, m2, m3⟩ := gMn_ok (E := E) (R := R) (n := n) (l := l) (s := s) (b := b) (T := T) (x := gX0 E T l s b) (gC R n l)
  refine Nat.le_antisymm ?_ ?_
  · by_cases e : (gAll E R n T l s b).2 = 0
    · obtain ⟨e1, e2⟩ := q4 e
      rw [e2]
      have : gX0 E T l s b = gBl T l s := if_pos e1
      rw [← this]
      exact m1
    · rw [← q5 (by omega)]
      exact m2 _ (by omega) q3
  · rcases m3 with z | ⟨y, y1, y2, y3⟩
    · rw [z]
      unfold gX0
      by_cases e1 : b = 0
      · rw [if_pos e1]
        exact q2 e1
      · rw [if_neg e1]
        have h1 := q1 1 (Nat.le_refl _) c1
        have h2 := (gW_ok (E := E) (R := R) (n := n) (T := T) (l := l) (s := s) (b := b) hE hR hn hb (Nat.le_refl 1) (by omega) (fun z => hT.1 _ _ (by omega) z (by omega)) (fun z => by rw [z]; exact hT.2 _ (by omega))).2
        omega
    · rw [y3]
      exact q1 y y1 y2
end PM
