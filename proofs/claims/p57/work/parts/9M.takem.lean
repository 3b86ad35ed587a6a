/-! THE MODEL TAKES PAGES -/
def F42 (t t' : MS) : Prop := (∀ k, k ≠ 41 → t'.1 k = t.1 k) ∧ ∀ f, f ≠ 42 → f ≠ 43 → t'.2 f = t.2 f
def pM (t : MS) (X : Nat → Nat) (n : Nat) : Prop := t.1 41 = nI (gNp X n (2 * n)) ∧ ∀ p, p < gNp X n (2 * n) → t.2 42 p = nI (gCh X n p)
section TM
variable {E : Nat → Nat} {R n : Nat} {t : MS}
end TM
