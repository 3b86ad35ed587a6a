/-! addRepeat, dropRepeat -/
section MM
variable {lb : Nat × Nat} {o so po : Nat} {I : Nat → CS → MS → Prop}
theorem i_ed2 {S1 : CS} {o so : Nat} {Q : CS → Prop} (hs : fR S1 224 o = some so) (hk : kdC S1 so = 12) (h : Q (usI S1 199 so (fI S1 199 so + 1))) : ((fR S1 224 o) ≠ none) ∧ (kdC S1 (oG (fR S1 224 o)) = 12) ∧ ∀ t : CS, t = usI S1 199 (oG (fR S1 224 o)) ((fI S1 199 (oG (fR S1 224 o))) + 1) → Q t := i_ed hs hk h
theorem kd_new {S : CS} {ci q : Nat} (h0 : kdC S (szC S) = 0) (hq : kdC S q ≠ 0) : kdC (newO S ci) q = kdC S q := va_up_ne (kdC S) _ (fun z => hq (by rw [z]; exact h0))
theorem fR_new {S : CS} {ci f q : Nat} (h0 : kdC S (szC S) = 0) (hq : kdC S q ≠ 0) : fR (newO S ci) f q = fR S f q := if_neg (fun z => hq (by rw [z]; exact h0))
theorem fI_new {S : CS} {ci f q : Nat} (h0 : kdC S (szC S) = 0) (hq : kdC S q ≠ 0) : fI (newO S ci) f q = fI S f q := if_neg (fun z => hq (by rw [z]; exact h0))
theorem nI_sub_le {a b : Nat} (h : b ≤ a) : nI a - nI b = nI (a - b) := pk_sub h
end MM
