/-! THE MODEL WEIGHS ALL PAGES -/
section PN
variable {E : Nat → Nat} {R n : Nat} {T : (Nat → Nat) × (Nat → Nat)} {D : Nat → Nat → Nat → Prop} {l s b : Nat} {t u : MS}
theorem ix_is {l s b : Nat} : (4 * nI l + 2 * nI s) + nI b = nI (gIx l s b) := by
  rw [show (4 : Int32) = nI 4 from rfl, show (2 : Int32) = nI 2 from rfl, pk_mul, pk_mul, nI_add, nI_add]
  rfl
theorem pgM_sub {D' : Nat → Nat → Nat → Prop} (h : pgM t E n T D) (hD : ∀ l s b, l < n → s < 2 → b < 2 → D' l s b → D l s b) : pgM t E n T D' := fun l s b h1 h2 h3 h4 => h l s b h1 h2 h3 (hD l s b h1 h2 h3 h4)
end PN
