/-! CALLS THAT CHANGE NOTHING: tempo, time, left, written, phrases -/
section CF
variable {lb : Nat × Nat} {o so po : Nat} {I : Nat → CS → MS → Prop}
theorem nI_isNote {x : Nat} (hx : x ≤ 127) : (if ¬ nI x ≤ 0 then (1 : Int32) else 0) = (if x = 0 then 0 else 1) := by
  by_cases e : x = 0
  · subst e
    rfl
  · rw [if_neg e, if_pos (nI_nle (by omega) (by omega))]
/-- phrases that are there -/
def zPh (A : MS) : Nat → Int32
  | 0 => 0
  | k + 1 => zPh A k + (if A.2 20 k = 0 then 1 else 0)
theorem cc_ph {S : CS} {A : MS} (h : rP S A so) {k : Nat} (hk : k < npS S so) : lIn S 193 so (nI k) ∧ lG S 193 so (nI k) = phL S so k ∧ rPk S A so k := by
  have h1 := h.1
  exact ⟨cc_in (N := npS S so) rfl hk (by omega), cc_lG (by omega), h.2.2.2.1 k hk⟩
end CF
